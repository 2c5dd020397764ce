/-! cX5_three -/
set_option maxRecDepth 100000 in
set_option maxHeartbeats 4000000 in
theorem c_X5_three (l : Launch) (G : ZG) (base : Nat) (M : Mem) (x0 : Nat) (x1 : Int32) (x2 : Int32) (x3 : Int32) (x4 : Int32) (Q : Int32 → Mem → Prop) (h : wp_X5_three x0 x1 x2 x3 x4 M Q) : ZMet l yX5_three cX5_three 5 (some .boolean) 1 30 G true base M [.ref (base + x0), .int x1, .int x2, .int x3, .int x4] (qI Q) := by
  refine z_start (by decide) (Nat.le_of_ble_eq_true rfl) k_co_yX5_three ?_
  intro p e s m below meth c R d0 H locs cells slots ls A hr hn hd0 hZ hl
  have hx := (A d0).1
  have hb := (A d0).2.1
  have hl : lv_has ls 5 [(0, .ref (base + x0)), (1, .int x1), (2, .int x2), (3, .int x3), (4, .int x4)] := hl
  unfold wp_X5_three at h
  obtain ⟨ho_x0, h⟩ := h
  refine lv_aload_n hx hb dX5_three_0 rfl (lv_at hl 0 rfl) ?_
  refine z_callV A hd0 hZ (ci := 5) (nA := 0) (As := []) (by decide) ho_x0 (c_X5_take l G base M x0 _ h) k_ml_RX5_178 k_im_yX5_take k_se_yX5_take k_in_RX5 k_co_yX5_take (by decide +kernel) ⟨by decide, by decide⟩ rfl rfl (Nat.le_of_ble_eq_true rfl) hl dX5_three_1 (fun v M1 H locs d0 cells slots hq hd0 hZ hm => ?_)
  clear h
  obtain ⟨rfl, h⟩ := hq
  have ho_x0 := isO_le hm ho_x0
  refine lv_aload_n hx hb dX5_three_4 rfl (lv_at hl 0 rfl) ?_
  refine lv_lconst (v := (0 : Int64)) hx hb dX5_three_5 (by decide) ?_
  obtain ⟨M2, eM2⟩ : ∃ y : Mem, y = sL M1 x0 5 (0 : Int64) := ⟨_, rfl⟩
  refine z_put (A d0) hZ (ci := 5) (j := 5) (M' := M2) ho_x0.1 ho_x0.2 (by decide) (by decide) k_fl_RX5_27 rfl (by rw [eM2]; exact zUpd_L) rfl rfl dX5_three_6 (fun H locs hZ => ?_)
  have hm : mz M2 = mz M1 := by rw [eM2] <;> rfl
  have ho_x0 := isO_le (Nat.le_of_eq hm.symm) ho_x0
  replace h := h M2 eM2
  refine lv_aload_n hx hb dX5_three_9 rfl (lv_at hl 0 rfl) ?_
  refine lv_lconst (v := (0 : Int64)) hx hb dX5_three_10 (by decide) ?_
  obtain ⟨M3, eM3⟩ : ∃ y : Mem, y = sL M2 x0 7 (0 : Int64) := ⟨_, rfl⟩
  refine z_put (A d0) hZ (ci := 5) (j := 7) (M' := M3) ho_x0.1 ho_x0.2 (by decide) (by decide) k_fl_RX5_33 rfl (by rw [eM3]; exact zUpd_L) rfl rfl dX5_three_11 (fun H locs hZ => ?_)
  have hm : mz M3 = mz M2 := by rw [eM3] <;> rfl
  have ho_x0 := isO_le (Nat.le_of_eq hm.symm) ho_x0
  replace h := h M3 eM3
  refine lv_aload_n hx hb dX5_three_14 rfl (lv_at hl 0 rfl) ?_
  refine lv_iload_n hx hb dX5_three_15 rfl (lv_at hl 1 rfl) ?_
  refine lv_iload_n hx hb dX5_three_16 rfl (lv_at hl 2 rfl) ?_
  refine lv_iconst (v := (0 : Int32)) hx hb dX5_three_17 (by decide) ?_
  refine lv_iload hx hb dX5_three_18 (lv_at hl 4 rfl) ?_
  refine z_callV A hd0 hZ (ci := 5) (nA := 4) (As := [.int x1, .int x2, .int (0 : Int32), .int x4]) (by decide) ho_x0 (c_X5_pair l G base M3 x0 x1 x2 (0 : Int32) x4 _ h) k_ml_RX5_168 k_im_yX5_pair k_se_yX5_pair k_in_RX5 k_co_yX5_pair (by decide +kernel) ⟨by decide, by decide⟩ rfl rfl (Nat.le_of_ble_eq_true rfl) hl dX5_three_20 (fun v M4 H locs d0 cells slots hq hd0 hZ hm => ?_)
  clear h
  obtain ⟨rfl, h⟩ := hq
  have ho_x0 := isO_le hm ho_x0
  refine lv_aload_n hx hb dX5_three_23 rfl (lv_at hl 0 rfl) ?_
  refine lv_iload_n hx hb dX5_three_24 rfl (lv_at hl 1 rfl) ?_
  refine lv_iload_n hx hb dX5_three_25 rfl (lv_at hl 3 rfl) ?_
  refine lv_iconst (v := (0 : Int32)) hx hb dX5_three_26 (by decide) ?_
  refine lv_iload hx hb dX5_three_27 (lv_at hl 4 rfl) ?_
  refine z_callV A hd0 hZ (ci := 5) (nA := 4) (As := [.int x1, .int x3, .int (0 : Int32), .int x4]) (by decide) ho_x0 (c_X5_pair l G base M4 x0 x1 x3 (0 : Int32) x4 _ h) k_ml_RX5_168 k_im_yX5_pair k_se_yX5_pair k_in_RX5 k_co_yX5_pair (by decide +kernel) ⟨by decide, by decide⟩ rfl rfl (Nat.le_of_ble_eq_true rfl) hl dX5_three_29 (fun v M5 H locs d0 cells slots hq hd0 hZ hm => ?_)
  clear h
  obtain ⟨rfl, h⟩ := hq
  have ho_x0 := isO_le hm ho_x0
  refine lv_aload_n hx hb dX5_three_32 rfl (lv_at hl 0 rfl) ?_
  refine lv_iload_n hx hb dX5_three_33 rfl (lv_at hl 2 rfl) ?_
  refine lv_iload_n hx hb dX5_three_34 rfl (lv_at hl 3 rfl) ?_
  refine lv_iconst (v := (0 : Int32)) hx hb dX5_three_35 (by decide) ?_
  refine lv_iload hx hb dX5_three_36 (lv_at hl 4 rfl) ?_
  refine z_callV A hd0 hZ (ci := 5) (nA := 4) (As := [.int x2, .int x3, .int (0 : Int32), .int x4]) (by decide) ho_x0 (c_X5_pair l G base M5 x0 x2 x3 (0 : Int32) x4 _ h) k_ml_RX5_168 k_im_yX5_pair k_se_yX5_pair k_in_RX5 k_co_yX5_pair (by decide +kernel) ⟨by decide, by decide⟩ rfl rfl (Nat.le_of_ble_eq_true rfl) hl dX5_three_38 (fun v M6 H locs d0 cells slots hq hd0 hZ hm => ?_)
  clear h
  obtain ⟨rfl, h⟩ := hq
  have ho_x0 := isO_le hm ho_x0
  refine lv_aload_n hx hb dX5_three_41 rfl (lv_at hl 0 rfl) ?_
  refine z_callV A hd0 hZ (ci := 5) (nA := 0) (As := []) (by decide) ho_x0 (c_X5_fits l G base M6 x0 _ h) k_ml_RX5_172 k_im_yX5_fits k_se_yX5_fits k_in_RX5 k_co_yX5_fits (by decide +kernel) ⟨by decide, by decide⟩ rfl rfl (Nat.le_of_ble_eq_true rfl) hl dX5_three_42 (fun v M7 H locs d0 cells slots hq hd0 hZ hm => ?_)
  clear h
  obtain ⟨i8, rfl, h⟩ := hq
  have ho_x0 := isO_le hm ho_x0
  exact z_zret A hd0 hZ hr h.1 ⟨_, rfl, h.2⟩ dX5_three_45
/-! cX5_passes -/
set_option maxRecDepth 100000 in
set_option maxHeartbeats 4000000 in
theorem zb_X5_passes_34 {p : Program} {l : Launch} {e : Env} {R : Room} {s : State} {m : MethodId} {args : Array Value} {below : List Frame} {meth : Method} {c : Code} {G : ZG} {base z0 : Nat} {Q : Int32 → Mem → Prop} (A : ∀ d, Amb p R (s.setDrawn d) m args meth c G base z0 cX5_passes yX5_passes.cls 5 2 54) (hr : meth.sig.returnType = (some .int)) {d0 : Drawn} {H : Heap} {locs : List Loc} {cells slots : Nat} {ls : Array Slot}  {M : Mem} (hd0 : s.drawn.sameBut d0 lw_cs) (hZ : ZH G true base s.heap M H locs) (hl : lv_has ls 5 []) (h : wp_X5_passes_34 M Q) : W p l e R (s.setDrawn d0) m args below meth c H locs cells slots (ZEnd below G true base z0 (qI Q) args s) (F0 m 34 ls []) := by
  have hx := (A d0).1
  have hb := (A d0).2.1
  unfold wp_X5_passes_34 at h
  refine lv_bipush (v := (-2 : Int32)) hx hb dX5_passes_34 (by decide) ?_
  exact z_iret A hd0 hZ hr ⟨_, rfl, h⟩ dX5_passes_36
set_option maxRecDepth 100000 in
set_option maxHeartbeats 4000000 in
theorem zb_X5_passes_54 {p : Program} {l : Launch} {e : Env} {R : Room} {s : State} {m : MethodId} {args : Array Value} {below : List Frame} {meth : Method} {c : Code} {G : ZG} {base z0 : Nat} {Q : Int32 → Mem → Prop} (A : ∀ d, Amb p R (s.setDrawn d) m args meth c G base z0 cX5_passes yX5_passes.cls 5 2 54) (hr : meth.sig.returnType = (some .int)) {d0 : Drawn} {H : Heap} {locs : List Loc} {cells slots : Nat} {ls : Array Slot} {t0 : Int32} {M : Mem} (hd0 : s.drawn.sameBut d0 lw_cs) (hZ : ZH G true base s.heap M H locs) (hl : lv_has ls 5 []) (h : wp_X5_passes_54 t0 M Q) : W p l e R (s.setDrawn d0) m args below meth c H locs cells slots (ZEnd below G true base z0 (qI Q) args s) (F0 m 54 ls [.int t0]) := by
  have hx := (A d0).1
  have hb := (A d0).2.1
  unfold wp_X5_passes_54 at h
  exact z_iret A hd0 hZ hr ⟨_, rfl, h⟩ dX5_passes_54
set_option maxRecDepth 100000 in
set_option maxHeartbeats 4000000 in
theorem c_X5_passes (l : Launch) (G : ZG) (base : Nat) (M : Mem) (x0 : Nat) (x1 : Int32) (x2 : Int32) (x3 : Int32) (x4 : Int32) (Q : Int32 → Mem → Prop) (h : wp_X5_passes x0 x1 x2 x3 x4 M Q) : ZMet l yX5_passes cX5_passes 5 (some .int) 2 54 G true base M [.ref (base + x0), .int x1, .int x2, .int x3, .int x4] (qI Q) := by
  refine z_start (by decide) (Nat.le_of_ble_eq_true rfl) k_co_yX5_passes ?_
  intro p e s m below meth c R d0 H locs cells slots ls A hr hn hd0 hZ hl
  have hx := (A d0).1
  have hb := (A d0).2.1
  have hl : lv_has ls 5 [(0, .ref (base + x0)), (1, .int x1), (2, .int x2), (3, .int x3), (4, .int x4)] := hl
  unfold wp_X5_passes at h
  obtain ⟨ho_x0, h⟩ := h
  refine lv_iload hx hb dX5_passes_0 (lv_at hl 4 rfl) ?_
  refine lv_if_lt (tgt := 34) hx hb dX5_passes_2 (by decide) (fun hc => ?_) (fun hc => ?_)
  · replace h := h.1 hc
    exact (zb_X5_passes_34 A hr hd0 hZ (lv_sub hl [] rfl) h)
  · replace h := h.2 hc
    refine lv_iload hx hb dX5_passes_5 (lv_at hl 4 rfl) ?_
    refine lv_bipush (v := (40 : Int32)) hx hb dX5_passes_7 (by decide) ?_
    refine lv_icmp_gt (tgt := 34) hx hb dX5_passes_9 (by decide) (fun hc => ?_) (fun hc => ?_)
    · replace h := h.1 hc
      exact (zb_X5_passes_34 A hr hd0 hZ (lv_sub hl [] rfl) h)
    · replace h := h.2 hc
      refine lv_iload_n hx hb dX5_passes_12 rfl (lv_at hl 1 rfl) ?_
      refine lv_if_lt (tgt := 34) hx hb dX5_passes_13 (by decide) (fun hc => ?_) (fun hc => ?_)
      · replace h := h.1 hc
        exact (zb_X5_passes_34 A hr hd0 hZ (lv_sub hl [] rfl) h)
      · replace h := h.2 hc
        refine lv_iload_n hx hb dX5_passes_16 rfl (lv_at hl 1 rfl) ?_
        refine lv_iload_n hx hb dX5_passes_17 rfl (lv_at hl 2 rfl) ?_
        refine lv_icmp_ge (tgt := 34) hx hb dX5_passes_18 (by decide) (fun hc => ?_) (fun hc => ?_)
        · replace h := h.1 hc
          exact (zb_X5_passes_34 A hr hd0 hZ (lv_sub hl [] rfl) h)
        · replace h := h.2 hc
          refine lv_iload_n hx hb dX5_passes_21 rfl (lv_at hl 2 rfl) ?_
          refine lv_iload_n hx hb dX5_passes_22 rfl (lv_at hl 3 rfl) ?_
          refine lv_icmp_ge (tgt := 34) hx hb dX5_passes_23 (by decide) (fun hc => ?_) (fun hc => ?_)
          · replace h := h.1 hc
            exact (zb_X5_passes_34 A hr hd0 hZ (lv_sub hl [] rfl) h)
          · replace h := h.2 hc
            refine lv_iload_n hx hb dX5_passes_26 rfl (lv_at hl 3 rfl) ?_
            refine lv_aload_n hx hb dX5_passes_27 rfl (lv_at hl 0 rfl) ?_
            refine z_get (A d0) hZ (ci := 5) (j := 1) ho_x0.1 ho_x0.2 (by decide) (by decide) k_fl_RX5_13 (v := .int (mI M x0 1)) rfl dX5_passes_28 ?_
            refine lv_icmp_lt (tgt := 37) hx hb dX5_passes_31 (by decide) (fun hc => ?_) (fun hc => ?_)
            · replace h := h.1 hc
              refine lv_aload_n hx hb dX5_passes_37 rfl (lv_at hl 0 rfl) ?_
              refine lv_iload_n hx hb dX5_passes_38 rfl (lv_at hl 1 rfl) ?_
              refine lv_iload_n hx hb dX5_passes_39 rfl (lv_at hl 2 rfl) ?_
              refine lv_iload_n hx hb dX5_passes_40 rfl (lv_at hl 3 rfl) ?_
              refine lv_iload hx hb dX5_passes_41 (lv_at hl 4 rfl) ?_
              refine z_callV A hd0 hZ (ci := 5) (nA := 4) (As := [.int x1, .int x2, .int x3, .int x4]) (by decide) ho_x0 (c_X5_three l G base M x0 x1 x2 x3 x4 _ h) k_ml_RX5_185 k_im_yX5_three k_se_yX5_three k_in_RX5 k_co_yX5_three (by decide +kernel) ⟨by decide, by decide⟩ rfl rfl (Nat.le_of_ble_eq_true rfl) hl dX5_passes_43 (fun v M1 H locs d0 cells slots hq hd0 hZ hm => ?_)
              clear h
              obtain ⟨i2, rfl, h⟩ := hq
              have ho_x0 := isO_le hm ho_x0
              refine lv_if_eq (tgt := 53) hx hb dX5_passes_46 (by decide) (fun hc => ?_) (fun hc => ?_)
              · replace h := h.1 hc
                refine lv_iconst (v := (0 : Int32)) hx hb dX5_passes_53 (by decide) ?_
                exact (zb_X5_passes_54 A hr hd0 hZ (lv_sub hl [] rfl) h)
              · replace h := h.2 hc
                refine lv_iconst (v := (1 : Int32)) hx hb dX5_passes_49 (by decide) ?_
                refine lv_goto (tgt := 54) hx hb dX5_passes_50 (by decide) ?_
                exact (zb_X5_passes_54 A hr hd0 hZ (lv_sub hl [] rfl) h)
            · replace h := h.2 hc
              exact (zb_X5_passes_34 A hr hd0 hZ (lv_sub hl [] rfl) h)
/-! cX5_span -/
set_option maxRecDepth 100000 in
set_option maxHeartbeats 4000000 in
theorem zb_X5_span_12 {p : Program} {l : Launch} {e : Env} {R : Room} {s : State} {m : MethodId} {args : Array Value} {below : List Frame} {meth : Method} {c : Code} {G : ZG} {base z0 : Nat} {Q : Int32 → Mem → Prop} (A : ∀ d, Amb p R (s.setDrawn d) m args meth c G base z0 cX5_span yX5_span.cls 8 2 56) (hr : meth.sig.returnType = (some .int)) {K52 : Nat → Int32 → Int32 → Int32 → Int32 → Mem → Prop} :
  ∀ (n : Nat) {d0 : Drawn} {H : Heap} {locs : List Loc} {cells slots : Nat} {ls : Array Slot} {x0 : Nat} {x1 : Int32} {x2 : Int32} {x3 : Int32} {x4 : Int32} {x5 : Int32} {M : Mem} (ho_x0 : isO M x0 5) (hd0 : s.drawn.sameBut d0 lw_cs) (hZ : ZH G true base s.heap M H locs) (hl : lv_has ls 8 [(0, .ref (base + x0)), (1, .int x1), (2, .int x2), (3, .int x3), (4, .int x4), (5, .int x5)]) (h : wp_X5_span_12 n x0 x1 x2 x3 x4 x5 M Q K52) (hK52 : ∀ {d0 : Drawn} {H : Heap} {locs : List Loc} {cells slots : Nat} {ls : Array Slot} {x0 : Nat} {x1 : Int32} {x2 : Int32} {x3 : Int32} {x4 : Int32} {M : Mem} (ho_x0 : isO M x0 5), s.drawn.sameBut d0 lw_cs → ZH G true base s.heap M H locs → lv_has ls 8 [(0, .ref (base + x0)), (1, .int x1), (2, .int x2), (3, .int x3), (4, .int x4)] → K52 x0 x1 x2 x3 x4 M → W p l e R (s.setDrawn d0) m args below meth c H locs cells slots (ZEnd below G true base z0 (qI Q) args s) (F0 m 52 ls [])), W p l e R (s.setDrawn d0) m args below meth c H locs cells slots (ZEnd below G true base z0 (qI Q) args s) (F0 m 12 ls []) := by
  have hx := (A default).1
  have hb := (A default).2.1
  intro n
  induction n with
  | zero => intro d0 H locs cells slots ls x0 x1 x2 x3 x4 x5 M ho_x0 hd0 hZ hl h hK52; exact h.elim
  | succ n ih =>
    intro d0 H locs cells slots ls x0 x1 x2 x3 x4 x5 M ho_x0 hd0 hZ hl h hK52
    unfold wp_X5_span_12 at h
    refine lv_iload hx hb dX5_span_12 (lv_at hl 5 rfl) ?_
    refine lv_iload_n hx hb dX5_span_14 rfl (lv_at hl 1 rfl) ?_
    refine lv_icmp_ge (tgt := 52) hx hb dX5_span_15 (by decide) (fun hc => ?_) (fun hc => ?_)
    · replace h := h.1 hc
      exact hK52 ho_x0 hd0 hZ (lv_sub hl [0, 1, 2, 3, 4] rfl) h
    · replace h := h.2 hc
      refine lv_iload hx hb dX5_span_18 (lv_at hl 4 rfl) ?_
      refine lv_aload_n hx hb dX5_span_20 rfl (lv_at hl 0 rfl) ?_
      refine z_get (A d0) hZ (ci := 5) (j := 1) ho_x0.1 ho_x0.2 (by decide) (by decide) k_fl_RX5_13 (v := .int (mI M x0 1)) rfl dX5_span_21 ?_
      refine lv_icmp_ge (tgt := 52) hx hb dX5_span_24 (by decide) (fun hc => ?_) (fun hc => ?_)
      · replace h := h.1 hc
        exact hK52 ho_x0 hd0 hZ (lv_sub hl [0, 1, 2, 3, 4] rfl) h
      · replace h := h.2 hc
        refine lv_iload hx hb dX5_span_27 (lv_at hl 4 rfl) ?_
        refine lv_istore_n (lv' := [(3, .int x4), (0, .ref (base + x0)), (1, .int x1), (2, .int x2), (4, .int x4), (5, .int x5)]) hx hb dX5_span_29 rfl hl (by decide) rfl (fun ls hl2 => ?_)
        replace hl := hl2
        refine lv_aload_n hx hb dX5_span_30 rfl (lv_at hl 1 rfl) ?_
        refine lv_iload hx hb dX5_span_31 (lv_at hl 4 rfl) ?_
        refine lv_aload_n hx hb dX5_span_33 rfl (lv_at hl 1 rfl) ?_
        refine z_get (A d0) hZ (ci := 5) (j := 1) ho_x0.1 ho_x0.2 (by decide) (by decide) k_fl_RX5_13 (v := .int (mI M x0 1)) rfl dX5_span_34 ?_
        refine lv_aload_n hx hb dX5_span_37 rfl (lv_at hl 1 rfl) ?_
        refine z_get (A d0) hZ (ci := 5) (j := 2) ho_x0.1 ho_x0.2 (by decide) (by decide) k_fl_RX5_17 (v := .int (mI M x0 2)) rfl dX5_span_38 ?_
        refine z_callV A hd0 hZ (ci := 5) (nA := 3) (As := [.int x4, .int (mI M x0 1), .int (mI M x0 2)]) (by decide) ho_x0 (c_X5_spanEnd l G base M x0 x4 (mI M x0 1) (mI M x0 2) _ h) k_ml_RX5_181 k_im_yX5_spanEnd k_se_yX5_spanEnd k_in_RX5 k_co_yX5_spanEnd (by decide +kernel) ⟨by decide, by decide⟩ rfl rfl (Nat.le_of_ble_eq_true rfl) hl dX5_span_41 (fun v M1 H locs d0 cells slots hq hd0 hZ hm => ?_)
        clear h
        obtain ⟨i2, rfl, h⟩ := hq
        have ho_x0 := isO_le hm ho_x0
        refine lv_istore (lv' := [(4, .int i2), (3, .int x4), (0, .ref (base + x0)), (1, .int x1), (2, .int x2), (5, .int x5)]) hx hb dX5_span_44 hl (by decide) rfl (fun ls hl2 => ?_)
        replace hl := hl2
        obtain ⟨i3, ei3⟩ : ∃ y : Int32, y = x5 + (1 : Int32) := ⟨_, rfl⟩
        replace h := h i3 ei3
        refine lv_iinc (v := i3) (lv' := [(5, .int i3), (4, .int i2), (3, .int x4), (0, .ref (base + x0)), (1, .int x1), (2, .int x2)]) hx hb dX5_span_46 hl (k := 5) rfl (by rw [ei3]; rfl) (by decide) rfl (fun ls hl2 => ?_)
        replace hl := hl2
        refine lv_goto (tgt := 12) hx hb dX5_span_49 (by decide) ?_
        exact ih ho_x0 hd0 hZ (lv_sub hl [3, 4, 5, 2, 1, 0] rfl) h hK52
set_option maxRecDepth 100000 in
set_option maxHeartbeats 4000000 in
theorem zb_X5_span_82 {p : Program} {l : Launch} {e : Env} {R : Room} {s : State} {m : MethodId} {args : Array Value} {below : List Frame} {meth : Method} {c : Code} {G : ZG} {base z0 : Nat} {Q : Int32 → Mem → Prop} (A : ∀ d, Amb p R (s.setDrawn d) m args meth c G base z0 cX5_span yX5_span.cls 8 2 56) (hr : meth.sig.returnType = (some .int)) {d0 : Drawn} {H : Heap} {locs : List Loc} {cells slots : Nat} {ls : Array Slot}  {M : Mem} (hd0 : s.drawn.sameBut d0 lw_cs) (hZ : ZH G true base s.heap M H locs) (hl : lv_has ls 8 []) (h : wp_X5_span_82 M Q) : W p l e R (s.setDrawn d0) m args below meth c H locs cells slots (ZEnd below G true base z0 (qI Q) args s) (F0 m 82 ls []) := by
  have hx := (A d0).1
  have hb := (A d0).2.1
  unfold wp_X5_span_82 at h
  refine lv_iconst (v := (-1 : Int32)) hx hb dX5_span_82 (by decide) ?_
  exact z_iret A hd0 hZ hr ⟨_, rfl, h⟩ dX5_span_83
set_option maxRecDepth 100000 in
set_option maxHeartbeats 4000000 in
theorem zb_X5_span_130 {p : Program} {l : Launch} {e : Env} {R : Room} {s : State} {m : MethodId} {args : Array Value} {below : List Frame} {meth : Method} {c : Code} {G : ZG} {base z0 : Nat} {Q : Int32 → Mem → Prop} (A : ∀ d, Amb p R (s.setDrawn d) m args meth c G base z0 cX5_span yX5_span.cls 8 2 56) (hr : meth.sig.returnType = (some .int)) {K154 : Int32 → Int32 → Int32 → Mem → Prop} {K173 : Nat → Int32 → Int32 → Int32 → Mem → Prop} :
  ∀ (n : Nat) {d0 : Drawn} {H : Heap} {locs : List Loc} {cells slots : Nat} {ls : Array Slot} {x0 : Nat} {x2 : Int32} {x4 : Int32} {x6 : Int32} {x7 : Int32} {M : Mem} (ho_x0 : isO M x0 5) (hd0 : s.drawn.sameBut d0 lw_cs) (hZ : ZH G true base s.heap M H locs) (hl : lv_has ls 8 [(0, .ref (base + x0)), (2, .int x2), (4, .int x4), (6, .int x6), (7, .int x7)]) (h : wp_X5_span_130 n x0 x2 x4 x6 x7 M Q K154 K173) (hK154 : ∀ {d0 : Drawn} {H : Heap} {locs : List Loc} {cells slots : Nat} {ls : Array Slot} {x2 : Int32} {x6 : Int32} {x7 : Int32} {M : Mem}, s.drawn.sameBut d0 lw_cs → ZH G true base s.heap M H locs → lv_has ls 8 [(2, .int x2), (6, .int x6), (7, .int x7)] → K154 x2 x6 x7 M → W p l e R (s.setDrawn d0) m args below meth c H locs cells slots (ZEnd below G true base z0 (qI Q) args s) (F0 m 154 ls [])) (hK173 : ∀ {d0 : Drawn} {H : Heap} {locs : List Loc} {cells slots : Nat} {ls : Array Slot} {x0 : Nat} {x2 : Int32} {x4 : Int32} {x6 : Int32} {M : Mem} (ho_x0 : isO M x0 5), s.drawn.sameBut d0 lw_cs → ZH G true base s.heap M H locs → lv_has ls 8 [(0, .ref (base + x0)), (2, .int x2), (4, .int x4), (6, .int x6)] → K173 x0 x2 x4 x6 M → W p l e R (s.setDrawn d0) m args below meth c H locs cells slots (ZEnd below G true base z0 (qI Q) args s) (F0 m 173 ls [])), W p l e R (s.setDrawn d0) m args below meth c H locs cells slots (ZEnd below G true base z0 (qI Q) args s) (F0 m 130 ls []) := by
  have hx := (A default).1
  have hb := (A default).2.1
  intro n
  induction n with
  | zero => intro d0 H locs cells slots ls x0 x2 x4 x6 x7 M ho_x0 hd0 hZ hl h hK154 hK173; exact h.elim
  | succ n ih =>
    intro d0 H locs cells slots ls x0 x2 x4 x6 x7 M ho_x0 hd0 hZ hl h hK154 hK173
    unfold wp_X5_span_130 at h
    refine lv_iload hx hb dX5_span_130 (lv_at hl 4 rfl) ?_
    refine lv_iload hx hb dX5_span_132 (lv_at hl 2 rfl) ?_
    refine lv_icmp_ge (tgt := 173) hx hb dX5_span_134 (by decide) (fun hc => ?_) (fun hc => ?_)
    · replace h := h.1 hc
      exact hK173 ho_x0 hd0 hZ (lv_sub hl [0, 1, 2, 3] rfl) h
    · replace h := h.2 hc
      refine lv_aload_n hx hb dX5_span_137 rfl (lv_at hl 0 rfl) ?_
      refine lv_iload hx hb dX5_span_138 (lv_at hl 3 rfl) ?_
      refine lv_iload hx hb dX5_span_140 (lv_at hl 4 rfl) ?_
      refine lv_iload hx hb dX5_span_142 (lv_at hl 2 rfl) ?_
      refine lv_aload_n hx hb dX5_span_144 rfl (lv_at hl 0 rfl) ?_
      refine z_get (A d0) hZ (ci := 5) (j := 2) ho_x0.1 ho_x0.2 (by decide) (by decide) k_fl_RX5_17 (v := .int (mI M x0 2)) rfl dX5_span_145 ?_
      refine z_callV A hd0 hZ (ci := 5) (nA := 4) (As := [.int x6, .int x7, .int x4, .int (mI M x0 2)]) (by decide) ho_x0 (c_X5_three l G base M x0 x6 x7 x4 (mI M x0 2) _ h) k_ml_RX5_185 k_im_yX5_three k_se_yX5_three k_in_RX5 k_co_yX5_three (by decide +kernel) ⟨by decide, by decide⟩ rfl rfl (Nat.le_of_ble_eq_true rfl) hl dX5_span_148 (fun v M7 H locs d0 cells slots hq hd0 hZ hm => ?_)
      clear h
      obtain ⟨i8, rfl, h⟩ := hq
      have ho_x0 := isO_le hm ho_x0
      refine lv_if_ne (tgt := 167) hx hb dX5_span_151 (by decide) (fun hc => ?_) (fun hc => ?_)
      · replace h := h.1 hc
        obtain ⟨i9, ei9⟩ : ∃ y : Int32, y = x7 + (1 : Int32) := ⟨_, rfl⟩
        replace h := h i9 ei9
        refine lv_iinc (v := i9) (lv' := [(7, .int i9), (0, .ref (base + x0)), (2, .int x2), (4, .int x4), (6, .int x6)]) hx hb dX5_span_167 hl (k := 4) rfl (by rw [ei9]; rfl) (by decide) rfl (fun ls hl2 => ?_)
        replace hl := hl2
        refine lv_goto (tgt := 130) hx hb dX5_span_170 (by decide) ?_
        exact ih ho_x0 hd0 hZ (lv_sub hl [1, 2, 3, 4, 0] rfl) h hK154 hK173
      · replace h := h.2 hc
        exact hK154 hd0 hZ (lv_sub hl [1, 3, 4] rfl) h
set_option maxRecDepth 100000 in
set_option maxHeartbeats 4000000 in
theorem zb_X5_span_166 {p : Program} {l : Launch} {e : Env} {R : Room} {s : State} {m : MethodId} {args : Array Value} {below : List Frame} {meth : Method} {c : Code} {G : ZG} {base z0 : Nat} {Q : Int32 → Mem → Prop} (A : ∀ d, Amb p R (s.setDrawn d) m args meth c G base z0 cX5_span yX5_span.cls 8 2 56) (hr : meth.sig.returnType = (some .int)) {d0 : Drawn} {H : Heap} {locs : List Loc} {cells slots : Nat} {ls : Array Slot} {t0 : Int32} {M : Mem} (hd0 : s.drawn.sameBut d0 lw_cs) (hZ : ZH G true base s.heap M H locs) (hl : lv_has ls 8 []) (h : wp_X5_span_166 t0 M Q) : W p l e R (s.setDrawn d0) m args below meth c H locs cells slots (ZEnd below G true base z0 (qI Q) args s) (F0 m 166 ls [.int t0]) := by
  have hx := (A d0).1
  have hb := (A d0).2.1
  unfold wp_X5_span_166 at h
  exact z_iret A hd0 hZ hr ⟨_, rfl, h⟩ dX5_span_166
set_option maxRecDepth 100000 in
set_option maxHeartbeats 4000000 in
theorem zb_X5_span_173 {p : Program} {l : Launch} {e : Env} {R : Room} {s : State} {m : MethodId} {args : Array Value} {below : List Frame} {meth : Method} {c : Code} {G : ZG} {base z0 : Nat} {Q : Int32 → Mem → Prop} (A : ∀ d, Amb p R (s.setDrawn d) m args meth c G base z0 cX5_span yX5_span.cls 8 2 56) (hr : meth.sig.returnType = (some .int)) {K117 : Nat → Int32 → Int32 → Int32 → Mem → Prop} {K154 : Int32 → Int32 → Int32 → Mem → Prop} {K179 : Mem → Prop} {d0 : Drawn} {H : Heap} {locs : List Loc} {cells slots : Nat} {ls : Array Slot} {x0 : Nat} {x2 : Int32} {x4 : Int32} {x6 : Int32} {M : Mem} (ho_x0 : isO M x0 5) (hd0 : s.drawn.sameBut d0 lw_cs) (hZ : ZH G true base s.heap M H locs) (hl : lv_has ls 8 [(0, .ref (base + x0)), (2, .int x2), (4, .int x4), (6, .int x6)]) (h : wp_X5_span_173 x0 x2 x4 x6 M Q K117 K154 K179) (hK117 : ∀ {d0 : Drawn} {H : Heap} {locs : List Loc} {cells slots : Nat} {ls : Array Slot} {x0 : Nat} {x2 : Int32} {x4 : Int32} {x6 : Int32} {M : Mem} (ho_x0 : isO M x0 5), s.drawn.sameBut d0 lw_cs → ZH G true base s.heap M H locs → lv_has ls 8 [(0, .ref (base + x0)), (2, .int x2), (4, .int x4), (6, .int x6)] → K117 x0 x2 x4 x6 M → W p l e R (s.setDrawn d0) m args below meth c H locs cells slots (ZEnd below G true base z0 (qI Q) args s) (F0 m 117 ls [])) (hK154 : ∀ {d0 : Drawn} {H : Heap} {locs : List Loc} {cells slots : Nat} {ls : Array Slot} {x2 : Int32} {x6 : Int32} {x7 : Int32} {M : Mem}, s.drawn.sameBut d0 lw_cs → ZH G true base s.heap M H locs → lv_has ls 8 [(2, .int x2), (6, .int x6), (7, .int x7)] → K154 x2 x6 x7 M → W p l e R (s.setDrawn d0) m args below meth c H locs cells slots (ZEnd below G true base z0 (qI Q) args s) (F0 m 154 ls [])) (hK179 : ∀ {d0 : Drawn} {H : Heap} {locs : List Loc} {cells slots : Nat} {ls : Array Slot} {M : Mem}, s.drawn.sameBut d0 lw_cs → ZH G true base s.heap M H locs → lv_has ls 8 [] → K179 M → W p l e R (s.setDrawn d0) m args below meth c H locs cells slots (ZEnd below G true base z0 (qI Q) args s) (F0 m 179 ls [])) : W p l e R (s.setDrawn d0) m args below meth c H locs cells slots (ZEnd below G true base z0 (qI Q) args s) (F0 m 173 ls []) := by
  have hx := (A d0).1
  have hb := (A d0).2.1
  unfold wp_X5_span_173 at h
  obtain ⟨i10, ei10⟩ : ∃ y : Int32, y = x6 + (1 : Int32) := ⟨_, rfl⟩
  replace h := h i10 ei10
  refine lv_iinc (v := i10) (lv' := [(6, .int i10), (0, .ref (base + x0)), (2, .int x2), (4, .int x4)]) hx hb dX5_span_173 hl (k := 3) rfl (by rw [ei10]; rfl) (by decide) rfl (fun ls hl2 => ?_)
  replace hl := hl2
  refine lv_goto (tgt := 117) hx hb dX5_span_176 (by decide) ?_
  exact hK117 ho_x0 hd0 hZ (lv_sub hl [1, 2, 3, 0] rfl) h
set_option maxRecDepth 100000 in
set_option maxHeartbeats 4000000 in
theorem zb_X5_span_179 {p : Program} {l : Launch} {e : Env} {R : Room} {s : State} {m : MethodId} {args : Array Value} {below : List Frame} {meth : Method} {c : Code} {G : ZG} {base z0 : Nat} {Q : Int32 → Mem → Prop} (A : ∀ d, Amb p R (s.setDrawn d) m args meth c G base z0 cX5_span yX5_span.cls 8 2 56) (hr : meth.sig.returnType = (some .int)) {d0 : Drawn} {H : Heap} {locs : List Loc} {cells slots : Nat} {ls : Array Slot}  {M : Mem} (hd0 : s.drawn.sameBut d0 lw_cs) (hZ : ZH G true base s.heap M H locs) (hl : lv_has ls 8 []) (h : wp_X5_span_179 M Q) : W p l e R (s.setDrawn d0) m args below meth c H locs cells slots (ZEnd below G true base z0 (qI Q) args s) (F0 m 179 ls []) := by
  have hx := (A d0).1
  have hb := (A d0).2.1
  unfold wp_X5_span_179 at h
  refine lv_iconst (v := (-1 : Int32)) hx hb dX5_span_179 (by decide) ?_
  exact z_iret A hd0 hZ hr ⟨_, rfl, h⟩ dX5_span_180
set_option maxRecDepth 100000 in
set_option maxHeartbeats 4000000 in
theorem zb_X5_span_117 {p : Program} {l : Launch} {e : Env} {R : Room} {s : State} {m : MethodId} {args : Array Value} {below : List Frame} {meth : Method} {c : Code} {G : ZG} {base z0 : Nat} {Q : Int32 → Mem → Prop} (A : ∀ d, Amb p R (s.setDrawn d) m args meth c G base z0 cX5_span yX5_span.cls 8 2 56) (hr : meth.sig.returnType = (some .int)) {K154 : Int32 → Int32 → Int32 → Mem → Prop} {K179 : Mem → Prop} :
  ∀ (n : Nat) {d0 : Drawn} {H : Heap} {locs : List Loc} {cells slots : Nat} {ls : Array Slot} {x0 : Nat} {x2 : Int32} {x4 : Int32} {x6 : Int32} {M : Mem} (ho_x0 : isO M x0 5) (hd0 : s.drawn.sameBut d0 lw_cs) (hZ : ZH G true base s.heap M H locs) (hl : lv_has ls 8 [(0, .ref (base + x0)), (2, .int x2), (4, .int x4), (6, .int x6)]) (h : wp_X5_span_117 n x0 x2 x4 x6 M Q K154 K179) (hK154 : ∀ {d0 : Drawn} {H : Heap} {locs : List Loc} {cells slots : Nat} {ls : Array Slot} {x2 : Int32} {x6 : Int32} {x7 : Int32} {M : Mem}, s.drawn.sameBut d0 lw_cs → ZH G true base s.heap M H locs → lv_has ls 8 [(2, .int x2), (6, .int x6), (7, .int x7)] → K154 x2 x6 x7 M → W p l e R (s.setDrawn d0) m args below meth c H locs cells slots (ZEnd below G true base z0 (qI Q) args s) (F0 m 154 ls [])) (hK179 : ∀ {d0 : Drawn} {H : Heap} {locs : List Loc} {cells slots : Nat} {ls : Array Slot} {M : Mem}, s.drawn.sameBut d0 lw_cs → ZH G true base s.heap M H locs → lv_has ls 8 [] → K179 M → W p l e R (s.setDrawn d0) m args below meth c H locs cells slots (ZEnd below G true base z0 (qI Q) args s) (F0 m 179 ls [])), W p l e R (s.setDrawn d0) m args below meth c H locs cells slots (ZEnd below G true base z0 (qI Q) args s) (F0 m 117 ls []) := by
  have hx := (A default).1
  have hb := (A default).2.1
  intro n
  induction n with
  | zero => intro d0 H locs cells slots ls x0 x2 x4 x6 M ho_x0 hd0 hZ hl h hK154 hK179; exact h.elim
  | succ n ih =>
    intro d0 H locs cells slots ls x0 x2 x4 x6 M ho_x0 hd0 hZ hl h hK154 hK179
    unfold wp_X5_span_117 at h
    refine lv_iload hx hb dX5_span_117 (lv_at hl 3 rfl) ?_
    refine lv_iload hx hb dX5_span_119 (lv_at hl 2 rfl) ?_
    refine lv_icmp_ge (tgt := 179) hx hb dX5_span_121 (by decide) (fun hc => ?_) (fun hc => ?_)
    · replace h := h.1 hc
      exact hK179 hd0 hZ (lv_sub hl [] rfl) h
    · replace h := h.2 hc
      refine lv_iload hx hb dX5_span_124 (lv_at hl 3 rfl) ?_
      refine lv_iconst (v := (1 : Int32)) hx hb dX5_span_126 (by decide) ?_
      refine lv_iadd hx hb dX5_span_127 ?_
      obtain ⟨i6, ei6⟩ : ∃ y : Int32, y = x6 + (1 : Int32) := ⟨_, rfl⟩
      rw [← ei6]
      replace h := h i6 ei6
      refine lv_istore (lv' := [(7, .int i6), (0, .ref (base + x0)), (2, .int x2), (4, .int x4), (6, .int x6)]) hx hb dX5_span_128 hl (by decide) rfl (fun ls hl2 => ?_)
      replace hl := hl2
      exact (Exists.elim h fun kk h => zb_X5_span_130 A hr kk ho_x0 hd0 hZ (lv_sub hl [1, 2, 3, 4, 0] rfl) h (fun hd0 hZ hl h => hK154 hd0 hZ hl h) (fun ho_x0 hd0 hZ hl h => (zb_X5_span_173 A hr ho_x0 hd0 hZ hl h (fun ho_x0 hd0 hZ hl h => ih ho_x0 hd0 hZ hl h hK154 hK179) hK154 hK179)))
set_option maxRecDepth 100000 in
set_option maxHeartbeats 4000000 in
theorem zb_X5_span_154 {p : Program} {l : Launch} {e : Env} {R : Room} {s : State} {m : MethodId} {args : Array Value} {below : List Frame} {meth : Method} {c : Code} {G : ZG} {base z0 : Nat} {Q : Int32 → Mem → Prop} (A : ∀ d, Amb p R (s.setDrawn d) m args meth c G base z0 cX5_span yX5_span.cls 8 2 56) (hr : meth.sig.returnType = (some .int)) {d0 : Drawn} {H : Heap} {locs : List Loc} {cells slots : Nat} {ls : Array Slot} {x2 : Int32} {x6 : Int32} {x7 : Int32} {M : Mem} (hd0 : s.drawn.sameBut d0 lw_cs) (hZ : ZH G true base s.heap M H locs) (hl : lv_has ls 8 [(2, .int x2), (6, .int x6), (7, .int x7)]) (h : wp_X5_span_154 x2 x6 x7 M Q) : W p l e R (s.setDrawn d0) m args below meth c H locs cells slots (ZEnd below G true base z0 (qI Q) args s) (F0 m 154 ls []) := by
  have hx := (A d0).1
  have hb := (A d0).2.1
  unfold wp_X5_span_154 at h
  refine lv_iload_n hx hb dX5_span_154 rfl (lv_at hl 0 rfl) ?_
  refine lv_iconst (v := (2 : Int32)) hx hb dX5_span_155 (by decide) ?_
  refine lv_icmp_ne (tgt := 164) hx hb dX5_span_156 (by decide) (fun hc => ?_) (fun hc => ?_)
  · replace h := h.1 hc
    refine lv_iload hx hb dX5_span_164 (lv_at hl 2 rfl) ?_
    exact (zb_X5_span_166 A hr hd0 hZ (lv_sub hl [] rfl) h)
  · replace h := h.2 hc
    refine lv_iload hx hb dX5_span_159 (lv_at hl 1 rfl) ?_
    refine lv_goto (tgt := 166) hx hb dX5_span_161 (by decide) ?_
    exact (zb_X5_span_166 A hr hd0 hZ (lv_sub hl [] rfl) h)
set_option maxRecDepth 100000 in
set_option maxHeartbeats 4000000 in
theorem zb_X5_span_79 {p : Program} {l : Launch} {e : Env} {R : Room} {s : State} {m : MethodId} {args : Array Value} {below : List Frame} {meth : Method} {c : Code} {G : ZG} {base z0 : Nat} {Q : Int32 → Mem → Prop} (A : ∀ d, Amb p R (s.setDrawn d) m args meth c G base z0 cX5_span yX5_span.cls 8 2 56) (hr : meth.sig.returnType = (some .int)) {d0 : Drawn} {H : Heap} {locs : List Loc} {cells slots : Nat} {ls : Array Slot} {x0 : Nat} {x2 : Int32} {x3 : Int32} {x4 : Int32} {t0 : Int32} {t1 : Int32} {M : Mem} (ho_x0 : isO M x0 5) (hd0 : s.drawn.sameBut d0 lw_cs) (hZ : ZH G true base s.heap M H locs) (hl : lv_has ls 8 [(0, .ref (base + x0)), (2, .int x2), (3, .int x3), (4, .int x4)]) (h : wp_X5_span_79 x0 x2 x3 x4 t0 t1 M Q) : W p l e R (s.setDrawn d0) m args below meth c H locs cells slots (ZEnd below G true base z0 (qI Q) args s) (F0 m 79 ls [.int t0, .int t1]) := by
  have hx := (A d0).1
  have hb := (A d0).2.1
  unfold wp_X5_span_79 at h
  refine lv_icmp_le (tgt := 84) hx hb dX5_span_79 (by decide) (fun hc => ?_) (fun hc => ?_)
  · replace h := h.1 hc
    refine lv_iload_n hx hb dX5_span_84 rfl (lv_at hl 1 rfl) ?_
    refine lv_if_ne (tgt := 91) hx hb dX5_span_85 (by decide) (fun hc => ?_) (fun hc => ?_)
    · replace h := h.1 hc
      refine lv_iload_n hx hb dX5_span_91 rfl (lv_at hl 1 rfl) ?_
      refine lv_iconst (v := (1 : Int32)) hx hb dX5_span_92 (by decide) ?_
      refine lv_icmp_ne (tgt := 114) hx hb dX5_span_93 (by decide) (fun hc => ?_) (fun hc => ?_)
      · replace h := h.1 hc
        refine lv_iload_n hx hb dX5_span_114 rfl (lv_at hl 2 rfl) ?_
        refine lv_istore (lv' := [(6, .int x3), (0, .ref (base + x0)), (2, .int x2), (3, .int x3), (4, .int x4)]) hx hb dX5_span_115 hl (by decide) rfl (fun ls hl2 => ?_)
        replace hl := hl2
        exact (Exists.elim h fun kk h => zb_X5_span_117 A hr kk ho_x0 hd0 hZ (lv_sub hl [1, 2, 4, 0] rfl) h (fun hd0 hZ hl h => (zb_X5_span_154 A hr hd0 hZ hl h)) (fun hd0 hZ hl h => (zb_X5_span_179 A hr hd0 hZ hl h)))
      · replace h := h.2 hc
        refine lv_aload_n hx hb dX5_span_96 rfl (lv_at hl 0 rfl) ?_
        refine lv_iload hx hb dX5_span_97 (lv_at hl 3 rfl) ?_
        refine lv_aload_n hx hb dX5_span_99 rfl (lv_at hl 0 rfl) ?_
        refine z_get (A d0) hZ (ci := 5) (j := 1) ho_x0.1 ho_x0.2 (by decide) (by decide) k_fl_RX5_13 (v := .int (mI M x0 1)) rfl dX5_span_100 ?_
        refine lv_aload_n hx hb dX5_span_103 rfl (lv_at hl 0 rfl) ?_
        refine z_get (A d0) hZ (ci := 5) (j := 2) ho_x0.1 ho_x0.2 (by decide) (by decide) k_fl_RX5_17 (v := .int (mI M x0 2)) rfl dX5_span_104 ?_
        refine z_callV A hd0 hZ (ci := 5) (nA := 3) (As := [.int x4, .int (mI M x0 1), .int (mI M x0 2)]) (by decide) ho_x0 (c_X5_spanEnd l G base M x0 x4 (mI M x0 1) (mI M x0 2) _ h) k_ml_RX5_181 k_im_yX5_spanEnd k_se_yX5_spanEnd k_in_RX5 k_co_yX5_spanEnd (by decide +kernel) ⟨by decide, by decide⟩ rfl rfl (Nat.le_of_ble_eq_true rfl) hl dX5_span_107 (fun v M4 H locs d0 cells slots hq hd0 hZ hm => ?_)
        clear h
        obtain ⟨i5, rfl, h⟩ := hq
        have ho_x0 := isO_le hm ho_x0
        refine lv_iload hx hb dX5_span_110 (lv_at hl 3 rfl) ?_
        refine lv_isub hx hb dX5_span_112 ?_
        exact z_iret A hd0 hZ hr ⟨_, rfl, h⟩ dX5_span_113
    · replace h := h.2 hc
      refine lv_iload hx hb dX5_span_88 (lv_at hl 3 rfl) ?_
      exact z_iret A hd0 hZ hr ⟨_, rfl, h⟩ dX5_span_90
  · replace h := h.2 hc
    exact (zb_X5_span_82 A hr hd0 hZ (lv_sub hl [] rfl) h)
set_option maxRecDepth 100000 in
set_option maxHeartbeats 4000000 in
theorem zb_X5_span_52 {p : Program} {l : Launch} {e : Env} {R : Room} {s : State} {m : MethodId} {args : Array Value} {below : List Frame} {meth : Method} {c : Code} {G : ZG} {base z0 : Nat} {Q : Int32 → Mem → Prop} (A : ∀ d, Amb p R (s.setDrawn d) m args meth c G base z0 cX5_span yX5_span.cls 8 2 56) (hr : meth.sig.returnType = (some .int)) {d0 : Drawn} {H : Heap} {locs : List Loc} {cells slots : Nat} {ls : Array Slot} {x0 : Nat} {x1 : Int32} {x2 : Int32} {x3 : Int32} {x4 : Int32} {M : Mem} (ho_x0 : isO M x0 5) (hd0 : s.drawn.sameBut d0 lw_cs) (hZ : ZH G true base s.heap M H locs) (hl : lv_has ls 8 [(0, .ref (base + x0)), (1, .int x1), (2, .int x2), (3, .int x3), (4, .int x4)]) (h : wp_X5_span_52 x0 x1 x2 x3 x4 M Q) : W p l e R (s.setDrawn d0) m args below meth c H locs cells slots (ZEnd below G true base z0 (qI Q) args s) (F0 m 52 ls []) := by
  have hx := (A d0).1
  have hb := (A d0).2.1
  unfold wp_X5_span_52 at h
  refine lv_iload_n hx hb dX5_span_52 rfl (lv_at hl 1 rfl) ?_
  refine lv_if_lt (tgt := 82) hx hb dX5_span_53 (by decide) (fun hc => ?_) (fun hc => ?_)
  · replace h := h.1 hc
    exact (zb_X5_span_82 A hr hd0 hZ (lv_sub hl [] rfl) h)
  · replace h := h.2 hc
    refine lv_iload hx hb dX5_span_56 (lv_at hl 4 rfl) ?_
    refine lv_aload_n hx hb dX5_span_58 rfl (lv_at hl 0 rfl) ?_
    refine z_get (A d0) hZ (ci := 5) (j := 1) ho_x0.1 ho_x0.2 (by decide) (by decide) k_fl_RX5_13 (v := .int (mI M x0 1)) rfl dX5_span_59 ?_
    refine lv_icmp_ge (tgt := 82) hx hb dX5_span_62 (by decide) (fun hc => ?_) (fun hc => ?_)
    · replace h := h.1 hc
      exact (zb_X5_span_82 A hr hd0 hZ (lv_sub hl [] rfl) h)
    · replace h := h.2 hc
      refine lv_iload_n hx hb dX5_span_65 rfl (lv_at hl 2 rfl) ?_
      refine lv_if_lt (tgt := 82) hx hb dX5_span_66 (by decide) (fun hc => ?_) (fun hc => ?_)
      · replace h := h.1 hc
        exact (zb_X5_span_82 A hr hd0 hZ (lv_sub hl [] rfl) h)
      · replace h := h.2 hc
        refine lv_iload_n hx hb dX5_span_69 rfl (lv_at hl 2 rfl) ?_
        refine lv_iload_n hx hb dX5_span_70 rfl (lv_at hl 1 rfl) ?_
        refine lv_if_le (tgt := 78) hx hb dX5_span_71 (by decide) (fun hc => ?_) (fun hc => ?_)
        · replace h := h.1 hc
          refine lv_iconst (v := (1 : Int32)) hx hb dX5_span_78 (by decide) ?_
          exact (zb_X5_span_79 A hr ho_x0 hd0 hZ (lv_sub hl [0, 2, 3, 4] rfl) h)
        · replace h := h.2 hc
          refine lv_iconst (v := (3 : Int32)) hx hb dX5_span_74 (by decide) ?_
          refine lv_goto (tgt := 79) hx hb dX5_span_75 (by decide) ?_
          exact (zb_X5_span_79 A hr ho_x0 hd0 hZ (lv_sub hl [0, 2, 3, 4] rfl) h)
set_option maxRecDepth 100000 in
set_option maxHeartbeats 4000000 in
theorem c_X5_span (l : Launch) (G : ZG) (base : Nat) (M : Mem) (x0 : Nat) (x1 : Int32) (x2 : Int32) (Q : Int32 → Mem → Prop) (h : wp_X5_span x0 x1 x2 M Q) : ZMet l yX5_span cX5_span 8 (some .int) 2 56 G true base M [.ref (base + x0), .int x1, .int x2] (qI Q) := by
  refine z_start (by decide) (Nat.le_of_ble_eq_true rfl) k_co_yX5_span ?_
  intro p e s m below meth c R d0 H locs cells slots ls A hr hn hd0 hZ hl
  have hx := (A d0).1
  have hb := (A d0).2.1
  have hl : lv_has ls 8 [(0, .ref (base + x0)), (1, .int x1), (2, .int x2)] := hl
  unfold wp_X5_span at h
  obtain ⟨ho_x0, h⟩ := h
  refine lv_aload_n hx hb dX5_span_0 rfl (lv_at hl 0 rfl) ?_
  refine z_callV A hd0 hZ (ci := 5) (nA := 0) (As := []) (by decide) ho_x0 (c_X5_take l G base M x0 _ h) k_ml_RX5_178 k_im_yX5_take k_se_yX5_take k_in_RX5 k_co_yX5_take (by decide +kernel) ⟨by decide, by decide⟩ rfl rfl (Nat.le_of_ble_eq_true rfl) hl dX5_span_1 (fun v M11 H locs d0 cells slots hq hd0 hZ hm => ?_)
  clear h
  obtain ⟨rfl, h⟩ := hq
  have ho_x0 := isO_le hm ho_x0
  refine lv_iconst (v := (0 : Int32)) hx hb dX5_span_4 (by decide) ?_
  refine lv_istore_n (lv' := [(3, .int (0 : Int32)), (0, .ref (base + x0)), (1, .int x1), (2, .int x2)]) hx hb dX5_span_5 rfl hl (by decide) rfl (fun ls hl2 => ?_)
  replace hl := hl2
  refine lv_iconst (v := (0 : Int32)) hx hb dX5_span_6 (by decide) ?_
  refine lv_istore (lv' := [(4, .int (0 : Int32)), (3, .int (0 : Int32)), (0, .ref (base + x0)), (1, .int x1), (2, .int x2)]) hx hb dX5_span_7 hl (by decide) rfl (fun ls hl2 => ?_)
  replace hl := hl2
  refine lv_iconst (v := (0 : Int32)) hx hb dX5_span_9 (by decide) ?_
  refine lv_istore (lv' := [(5, .int (0 : Int32)), (4, .int (0 : Int32)), (3, .int (0 : Int32)), (0, .ref (base + x0)), (1, .int x1), (2, .int x2)]) hx hb dX5_span_10 hl (by decide) rfl (fun ls hl2 => ?_)
  replace hl := hl2
  exact (Exists.elim h fun kk h => zb_X5_span_12 A hr kk ho_x0 hd0 hZ (lv_sub hl [3, 4, 5, 2, 1, 0] rfl) h (fun ho_x0 hd0 hZ hl h => (zb_X5_span_52 A hr ho_x0 hd0 hZ hl h)))
/-! cX5_pieces -/
set_option maxRecDepth 100000 in
set_option maxHeartbeats 4000000 in
theorem c_X5_pieces (l : Launch) (G : ZG) (base : Nat) (M : Mem) (x0 : Nat) (Q : Int32 → Mem → Prop) (h : wp_X5_pieces x0 M Q) : ZMet l yX5_pieces cX5_pieces 1 (some .int) 0 0 G true base M [.ref (base + x0)] (qI Q) := by
  refine z_start (by decide) (Nat.le_of_ble_eq_true rfl) k_co_yX5_pieces ?_
  intro p e s m below meth c R d0 H locs cells slots ls A hr hn hd0 hZ hl
  have hx := (A d0).1
  have hb := (A d0).2.1
  have hl : lv_has ls 1 [(0, .ref (base + x0))] := hl
  unfold wp_X5_pieces at h
  obtain ⟨ho_x0, h⟩ := h
  refine lv_aload_n hx hb dX5_pieces_0 rfl (lv_at hl 0 rfl) ?_
  refine z_get (A d0) hZ (ci := 5) (j := 11) ho_x0.1 ho_x0.2 (by decide) (by decide) k_fl_RX5_46 (v := .ref (base + 73)) (zv_fin (zf5 ho_x0 rfl) rfl) dX5_pieces_1 ?_
  refine lv_iconst (v := (0 : Int32)) hx hb dX5_pieces_4 (by decide) ?_
  obtain ⟨hin, h⟩ := h
  refine z_iald (A d0) hZ (isA_c (a := 73) hZ.k0 (by decide) rfl) hin dX5_pieces_5 ?_
  exact z_iret A hd0 hZ hr ⟨_, rfl, h⟩ dX5_pieces_6
/-! cX5_divisor -/
set_option maxRecDepth 100000 in
set_option maxHeartbeats 4000000 in
theorem zb_X5_divisor_6 {p : Program} {l : Launch} {e : Env} {R : Room} {s : State} {m : MethodId} {args : Array Value} {below : List Frame} {meth : Method} {c : Code} {G : ZG} {base z0 : Nat} {Q : Int64 → Mem → Prop} (A : ∀ d, Amb p R (s.setDrawn d) m args meth c G base z0 cX5_divisor yX5_divisor.cls 11 0 0) (hr : meth.sig.returnType = (some .long)) {K31 : Int64 → Mem → Prop} :
  ∀ (n : Nat) {d0 : Drawn} {H : Heap} {locs : List Loc} {cells slots : Nat} {ls : Array Slot} {x5 : Int64} {x7 : Int64} {M : Mem} (hd0 : s.drawn.sameBut d0 lw_cs) (hZ : ZH G true base s.heap M H locs) (hl : lv_has ls 11 [(5, .long x5), (7, .long x7)]) (h : wp_X5_divisor_6 n x5 x7 M Q K31) (hK31 : ∀ {d0 : Drawn} {H : Heap} {locs : List Loc} {cells slots : Nat} {ls : Array Slot} {x5 : Int64} {M : Mem}, s.drawn.sameBut d0 lw_cs → ZH G true base s.heap M H locs → lv_has ls 11 [(5, .long x5)] → K31 x5 M → W p l e R (s.setDrawn d0) m args below meth c H locs cells slots (ZEnd below G true base z0 (qL Q) args s) (F0 m 31 ls [])), W p l e R (s.setDrawn d0) m args below meth c H locs cells slots (ZEnd below G true base z0 (qL Q) args s) (F0 m 6 ls []) := by
  have hx := (A default).1
  have hb := (A default).2.1
  intro n
  induction n with
  | zero => intro d0 H locs cells slots ls x5 x7 M hd0 hZ hl h hK31; exact h.elim
  | succ n ih =>
    intro d0 H locs cells slots ls x5 x7 M hd0 hZ hl h hK31
    unfold wp_X5_divisor_6 at h
    refine lv_lload hx hb dX5_divisor_6 (lv_at hl 1 rfl) ?_
    refine lv_lconst (v := (0 : Int64)) hx hb dX5_divisor_8 (by decide) ?_
    refine z_lc_eq (tgt := 31) hx hb dX5_divisor_9 dX5_divisor_10 (by decide) (fun hc => ?_) (fun hc => ?_)
    · replace h := h.1 hc
      exact hK31 hd0 hZ (lv_sub hl [0] rfl) h
    · replace h := h.2 hc
      refine lv_lload hx hb dX5_divisor_13 (lv_at hl 0 rfl) ?_
      refine lv_lload hx hb dX5_divisor_15 (lv_at hl 1 rfl) ?_
      obtain ⟨hne, h⟩ := h
      refine lv_lrem hx hb dX5_divisor_17 hne ?_
      obtain ⟨j1, ej1⟩ : ∃ y : Int64, y = x5 - x5 / x7 * x7 := ⟨_, rfl⟩
      rw [← ej1]
      replace h := h j1 ej1
      refine lv_lstore (lv' := [(9, .long j1), (5, .long x5), (7, .long x7)]) hx hb dX5_divisor_18 hl (by decide) rfl (fun ls hl2 => ?_)
      replace hl := hl2
      refine lv_lload hx hb dX5_divisor_20 (lv_at hl 2 rfl) ?_
      refine lv_lstore (lv' := [(5, .long x7), (9, .long j1), (7, .long x7)]) hx hb dX5_divisor_22 hl (by decide) rfl (fun ls hl2 => ?_)
      replace hl := hl2
      refine lv_lload hx hb dX5_divisor_24 (lv_at hl 1 rfl) ?_
      refine lv_lstore (lv' := [(7, .long j1), (5, .long x7), (9, .long j1)]) hx hb dX5_divisor_26 hl (by decide) rfl (fun ls hl2 => ?_)
      replace hl := hl2
      refine lv_goto (tgt := 6) hx hb dX5_divisor_28 (by decide) ?_
      exact ih hd0 hZ (lv_sub hl [1, 0] rfl) h hK31
set_option maxRecDepth 100000 in
set_option maxHeartbeats 4000000 in
theorem zb_X5_divisor_31 {p : Program} {l : Launch} {e : Env} {R : Room} {s : State} {m : MethodId} {args : Array Value} {below : List Frame} {meth : Method} {c : Code} {G : ZG} {base z0 : Nat} {Q : Int64 → Mem → Prop} (A : ∀ d, Amb p R (s.setDrawn d) m args meth c G base z0 cX5_divisor yX5_divisor.cls 11 0 0) (hr : meth.sig.returnType = (some .long)) {d0 : Drawn} {H : Heap} {locs : List Loc} {cells slots : Nat} {ls : Array Slot} {x5 : Int64} {M : Mem} (hd0 : s.drawn.sameBut d0 lw_cs) (hZ : ZH G true base s.heap M H locs) (hl : lv_has ls 11 [(5, .long x5)]) (h : wp_X5_divisor_31 x5 M Q) : W p l e R (s.setDrawn d0) m args below meth c H locs cells slots (ZEnd below G true base z0 (qL Q) args s) (F0 m 31 ls []) := by
  have hx := (A d0).1
  have hb := (A d0).2.1
  unfold wp_X5_divisor_31 at h
  refine lv_lload hx hb dX5_divisor_31 (lv_at hl 0 rfl) ?_
  exact z_lret A hd0 hZ hr ⟨_, rfl, h⟩ dX5_divisor_33
set_option maxRecDepth 100000 in
set_option maxHeartbeats 4000000 in
theorem c_X5_divisor (l : Launch) (G : ZG) (base : Nat) (M : Mem) (x0 : Nat) (x1 : Int64) (x3 : Int64) (Q : Int64 → Mem → Prop) (h : wp_X5_divisor x0 x1 x3 M Q) : ZMet l yX5_divisor cX5_divisor 11 (some .long) 0 0 G true base M [.ref (base + x0), .long x1, .long x3] (qL Q) := by
  refine z_start (by decide) (Nat.le_of_ble_eq_true rfl) k_co_yX5_divisor ?_
  intro p e s m below meth c R d0 H locs cells slots ls A hr hn hd0 hZ hl
  have hx := (A d0).1
  have hb := (A d0).2.1
  have hl : lv_has ls 11 [(0, .ref (base + x0)), (1, .long x1), (3, .long x3)] := hl
  unfold wp_X5_divisor at h
  obtain ⟨ho_x0, h⟩ := h
  refine lv_lload_n hx hb dX5_divisor_0 rfl (lv_at hl 1 rfl) ?_
  refine lv_lstore (lv' := [(5, .long x1), (0, .ref (base + x0)), (1, .long x1), (3, .long x3)]) hx hb dX5_divisor_1 hl (by decide) rfl (fun ls hl2 => ?_)
  replace hl := hl2
  refine lv_lload_n hx hb dX5_divisor_3 rfl (lv_at hl 3 rfl) ?_
  refine lv_lstore (lv' := [(7, .long x3), (5, .long x1), (0, .ref (base + x0)), (1, .long x1), (3, .long x3)]) hx hb dX5_divisor_4 hl (by decide) rfl (fun ls hl2 => ?_)
  replace hl := hl2
  exact (Exists.elim h fun kk h => zb_X5_divisor_6 A hr kk hd0 hZ (lv_sub hl [1, 0] rfl) h (fun hd0 hZ hl h => (zb_X5_divisor_31 A hr hd0 hZ hl h)))
/-! cX5_guessOf -/
set_option maxRecDepth 100000 in
set_option maxHeartbeats 4000000 in
theorem zb_X5_guessOf_107 {p : Program} {l : Launch} {e : Env} {R : Room} {s : State} {m : MethodId} {args : Array Value} {below : List Frame} {meth : Method} {c : Code} {G : ZG} {base z0 : Nat} {Q : Int32 → Mem → Prop} (A : ∀ d, Amb p R (s.setDrawn d) m args meth c G base z0 cX5_guessOf yX5_guessOf.cls 9 0 0) (hr : meth.sig.returnType = (some .int)) {d0 : Drawn} {H : Heap} {locs : List Loc} {cells slots : Nat} {ls : Array Slot} {t0 : Int32} {M : Mem} (hd0 : s.drawn.sameBut d0 lw_cs) (hZ : ZH G true base s.heap M H locs) (hl : lv_has ls 9 []) (h : wp_X5_guessOf_107 t0 M Q) : W p l e R (s.setDrawn d0) m args below meth c H locs cells slots (ZEnd below G true base z0 (qI Q) args s) (F0 m 107 ls [.int t0]) := by
  have hx := (A d0).1
  have hb := (A d0).2.1
  unfold wp_X5_guessOf_107 at h
  exact z_iret A hd0 hZ hr ⟨_, rfl, h⟩ dX5_guessOf_107
set_option maxRecDepth 100000 in
set_option maxHeartbeats 4000000 in
theorem zb_X5_guessOf_174 {p : Program} {l : Launch} {e : Env} {R : Room} {s : State} {m : MethodId} {args : Array Value} {below : List Frame} {meth : Method} {c : Code} {G : ZG} {base z0 : Nat} {Q : Int32 → Mem → Prop} (A : ∀ d, Amb p R (s.setDrawn d) m args meth c G base z0 cX5_guessOf yX5_guessOf.cls 9 0 0) (hr : meth.sig.returnType = (some .int)) {d0 : Drawn} {H : Heap} {locs : List Loc} {cells slots : Nat} {ls : Array Slot} {t0 : Int32} {M : Mem} (hd0 : s.drawn.sameBut d0 lw_cs) (hZ : ZH G true base s.heap M H locs) (hl : lv_has ls 9 []) (h : wp_X5_guessOf_174 t0 M Q) : W p l e R (s.setDrawn d0) m args below meth c H locs cells slots (ZEnd below G true base z0 (qI Q) args s) (F0 m 174 ls [.int t0]) := by
  have hx := (A d0).1
  have hb := (A d0).2.1
  unfold wp_X5_guessOf_174 at h
  exact z_iret A hd0 hZ hr ⟨_, rfl, h⟩ dX5_guessOf_174
set_option maxRecDepth 100000 in
set_option maxHeartbeats 4000000 in
theorem c_X5_guessOf (l : Launch) (G : ZG) (base : Nat) (M : Mem) (x0 : Nat) (x1 : Int32) (x2 : Int64) (Q : Int32 → Mem → Prop) (h : wp_X5_guessOf x0 x1 x2 M Q) : ZMet l yX5_guessOf cX5_guessOf 9 (some .int) 0 0 G true base M [.ref (base + x0), .int x1, .long x2] (qI Q) := by
  refine z_start (by decide) (Nat.le_of_ble_eq_true rfl) k_co_yX5_guessOf ?_
  intro p e s m below meth c R d0 H locs cells slots ls A hr hn hd0 hZ hl
  have hx := (A d0).1
  have hb := (A d0).2.1
  have hl : lv_has ls 9 [(0, .ref (base + x0)), (1, .int x1), (2, .long x2)] := hl
  unfold wp_X5_guessOf at h
  obtain ⟨ho_x0, h⟩ := h
  refine lv_aload_n hx hb dX5_guessOf_0 rfl (lv_at hl 0 rfl) ?_
  refine z_get (A d0) hZ (ci := 5) (j := 14) ho_x0.1 ho_x0.2 (by decide) (by decide) k_fl_RX5_55 (v := .ref (base + 76)) (zv_fin (zf5 ho_x0 rfl) rfl) dX5_guessOf_1 ?_
  refine lv_iload_n hx hb dX5_guessOf_4 rfl (lv_at hl 1 rfl) ?_
  obtain ⟨hin, h⟩ := h
  refine z_iald (A d0) hZ (isA_c (a := 76) hZ.k0 (by decide) rfl) hin dX5_guessOf_5 ?_
  refine lv_iconst (v := (1 : Int32)) hx hb dX5_guessOf_6 (by decide) ?_
  refine lv_isub hx hb dX5_guessOf_7 ?_
  obtain ⟨i1, ei1⟩ : ∃ y : Int32, y = (mI M 76 x1.toNatClampNeg) - (1 : Int32) := ⟨_, rfl⟩
  rw [← ei1]
  replace h := h i1 ei1
  refine lv_istore (lv' := [(4, .int i1), (0, .ref (base + x0)), (1, .int x1), (2, .long x2)]) hx hb dX5_guessOf_8 hl (by decide) rfl (fun ls hl2 => ?_)
  replace hl := hl2
  refine lv_aload_n hx hb dX5_guessOf_10 rfl (lv_at hl 1 rfl) ?_
  refine z_get (A d0) hZ (ci := 5) (j := 12) ho_x0.1 ho_x0.2 (by decide) (by decide) k_fl_RX5_49 (v := .ref (base + 74)) (zv_fin (zf5 ho_x0 rfl) rfl) dX5_guessOf_11 ?_
  refine lv_iload_n hx hb dX5_guessOf_14 rfl (lv_at hl 2 rfl) ?_
  obtain ⟨hin, h⟩ := h
  refine z_iald (A d0) hZ (isA_c (a := 74) hZ.k0 (by decide) rfl) hin dX5_guessOf_15 ?_
  refine lv_if_ne (tgt := 21) hx hb dX5_guessOf_16 (by decide) (fun hc => ?_) (fun hc => ?_)
  · replace h := h.1 hc
    refine lv_aload_n hx hb dX5_guessOf_21 rfl (lv_at hl 1 rfl) ?_
    refine z_get (A d0) hZ (ci := 5) (j := 12) ho_x0.1 ho_x0.2 (by decide) (by decide) k_fl_RX5_49 (v := .ref (base + 74)) (zv_fin (zf5 ho_x0 rfl) rfl) dX5_guessOf_22 ?_
    refine lv_iload_n hx hb dX5_guessOf_25 rfl (lv_at hl 2 rfl) ?_
    obtain ⟨hin, h⟩ := h
    refine z_iald (A d0) hZ (isA_c (a := 74) hZ.k0 (by decide) rfl) hin dX5_guessOf_26 ?_
    refine lv_iconst (v := (2 : Int32)) hx hb dX5_guessOf_27 (by decide) ?_
    refine lv_icmp_ne (tgt := 108) hx hb dX5_guessOf_28 (by decide) (fun hc => ?_) (fun hc => ?_)
    · replace h := h.1 hc
      refine lv_aload_n hx hb dX5_guessOf_108 rfl (lv_at hl 1 rfl) ?_
      refine z_get (A d0) hZ (ci := 5) (j := 19) ho_x0.1 ho_x0.2 (by decide) (by decide) k_fl_RX5_70 (v := .ref (base + 81)) (zv_fin (zf5 ho_x0 rfl) rfl) dX5_guessOf_109 ?_
      refine lv_iload_n hx hb dX5_guessOf_112 rfl (lv_at hl 2 rfl) ?_
      obtain ⟨hin, h⟩ := h
      refine z_lald (A d0) hZ (isA_c (a := 81) hZ.k0 (by decide) rfl) hin dX5_guessOf_113 ?_
      refine lv_aload_n hx hb dX5_guessOf_114 rfl (lv_at hl 1 rfl) ?_
      refine z_get (A d0) hZ (ci := 5) (j := 17) ho_x0.1 ho_x0.2 (by decide) (by decide) k_fl_RX5_64 (v := .ref (base + 79)) (zv_fin (zf5 ho_x0 rfl) rfl) dX5_guessOf_115 ?_
      refine lv_iload_n hx hb dX5_guessOf_118 rfl (lv_at hl 2 rfl) ?_
      obtain ⟨hin, h⟩ := h
      refine z_lald (A d0) hZ (isA_c (a := 79) hZ.k0 (by decide) rfl) hin dX5_guessOf_119 ?_
      refine lv_lload_n hx hb dX5_guessOf_120 rfl (lv_at hl 3 rfl) ?_
      refine lv_aload_n hx hb dX5_guessOf_121 rfl (lv_at hl 1 rfl) ?_
      refine z_get (A d0) hZ (ci := 5) (j := 20) ho_x0.1 ho_x0.2 (by decide) (by decide) k_fl_RX5_73 (v := .ref (base + 82)) (zv_fin (zf5 ho_x0 rfl) rfl) dX5_guessOf_122 ?_
      refine lv_aload_n hx hb dX5_guessOf_125 rfl (lv_at hl 1 rfl) ?_
      refine z_get (A d0) hZ (ci := 5) (j := 13) ho_x0.1 ho_x0.2 (by decide) (by decide) k_fl_RX5_52 (v := .ref (base + 75)) (zv_fin (zf5 ho_x0 rfl) rfl) dX5_guessOf_126 ?_
      refine lv_iload_n hx hb dX5_guessOf_129 rfl (lv_at hl 2 rfl) ?_
      obtain ⟨hin, h⟩ := h
      refine z_iald (A d0) hZ (isA_c (a := 75) hZ.k0 (by decide) rfl) hin dX5_guessOf_130 ?_
      obtain ⟨hin, h⟩ := h
      refine z_lald (A d0) hZ (isA_c (a := 82) hZ.k0 (by decide) rfl) hin dX5_guessOf_131 ?_
      refine lv_lsub hx hb dX5_guessOf_132 ?_
      refine lv_lmul hx hb dX5_guessOf_133 ?_
      refine lv_ladd hx hb dX5_guessOf_134 ?_
      obtain ⟨j2, ej2⟩ : ∃ y : Int64, y = (mL M 81 x1.toNatClampNeg) + ((mL M 79 x1.toNatClampNeg) * (x2 - (mL M 82 (mI M 75 x1.toNatClampNeg).toNatClampNeg))) := ⟨_, rfl⟩
      rw [← ej2]
      replace h := h j2 ej2
      refine lv_lstore (lv' := [(5, .long j2), (4, .int i1), (0, .ref (base + x0)), (1, .int x1), (2, .long x2)]) hx hb dX5_guessOf_135 hl (by decide) rfl (fun ls hl2 => ?_)
      replace hl := hl2
      refine lv_lload hx hb dX5_guessOf_137 (lv_at hl 0 rfl) ?_
      refine lv_lconst (v := (0 : Int64)) hx hb dX5_guessOf_139 (by decide) ?_
      refine z_lc_ge (tgt := 146) hx hb dX5_guessOf_140 dX5_guessOf_141 (by decide) (fun hc => ?_) (fun hc => ?_)
      · replace h := h.1 hc
        refine lv_lload hx hb dX5_guessOf_146 (lv_at hl 0 rfl) ?_
        refine lv_aload_n hx hb dX5_guessOf_148 rfl (lv_at hl 2 rfl) ?_
        refine z_get (A d0) hZ (ci := 5) (j := 18) ho_x0.1 ho_x0.2 (by decide) (by decide) k_fl_RX5_67 (v := .ref (base + 80)) (zv_fin (zf5 ho_x0 rfl) rfl) dX5_guessOf_149 ?_
        refine lv_iload_n hx hb dX5_guessOf_152 rfl (lv_at hl 3 rfl) ?_
        obtain ⟨hin, h⟩ := h
        refine z_lald (A d0) hZ (isA_c (a := 80) hZ.k0 (by decide) rfl) hin dX5_guessOf_153 ?_
        obtain ⟨hne, h⟩ := h
        refine lv_ldiv hx hb dX5_guessOf_154 hne ?_
        obtain ⟨j3, ej3⟩ : ∃ y : Int64, y = j2 / (mL M 80 x1.toNatClampNeg) := ⟨_, rfl⟩
        rw [← ej3]
        replace h := h j3 ej3
        refine lv_lstore (lv' := [(7, .long j3), (5, .long j2), (4, .int i1), (0, .ref (base + x0)), (1, .int x1), (2, .long x2)]) hx hb dX5_guessOf_155 hl (by decide) rfl (fun ls hl2 => ?_)
        replace hl := hl2
        refine lv_lload hx hb dX5_guessOf_157 (lv_at hl 0 rfl) ?_
        refine lv_iload hx hb dX5_guessOf_159 (lv_at hl 2 rfl) ?_
        refine lv_i2l hx hb dX5_guessOf_161 rfl ?_
        refine z_lc_le (tgt := 171) hx hb dX5_guessOf_162 dX5_guessOf_163 (by decide) (fun hc => ?_) (fun hc => ?_)
        · replace h := h.1 hc
          refine lv_lload hx hb dX5_guessOf_171 (lv_at hl 0 rfl) ?_
          refine lv_l2i hx hb dX5_guessOf_173 rfl ?_
          exact (zb_X5_guessOf_174 A hr hd0 hZ (lv_sub hl [] rfl) h)
        · replace h := h.2 hc
          refine lv_iload hx hb dX5_guessOf_166 (lv_at hl 2 rfl) ?_
          refine lv_goto (tgt := 174) hx hb dX5_guessOf_168 (by decide) ?_
          exact (zb_X5_guessOf_174 A hr hd0 hZ (lv_sub hl [] rfl) h)
      · replace h := h.2 hc
        refine lv_iconst (v := (0 : Int32)) hx hb dX5_guessOf_144 (by decide) ?_
        exact z_iret A hd0 hZ hr ⟨_, rfl, h⟩ dX5_guessOf_145
    · replace h := h.2 hc
      refine lv_aload_n hx hb dX5_guessOf_31 rfl (lv_at hl 1 rfl) ?_
      refine z_get (A d0) hZ (ci := 5) (j := 19) ho_x0.1 ho_x0.2 (by decide) (by decide) k_fl_RX5_70 (v := .ref (base + 81)) (zv_fin (zf5 ho_x0 rfl) rfl) dX5_guessOf_32 ?_
      refine lv_iload_n hx hb dX5_guessOf_35 rfl (lv_at hl 2 rfl) ?_
      obtain ⟨hin, h⟩ := h
      refine z_lald (A d0) hZ (isA_c (a := 81) hZ.k0 (by decide) rfl) hin dX5_guessOf_36 ?_
      refine lv_l2d hx hb dX5_guessOf_37 ?_
      refine lv_aload_n hx hb dX5_guessOf_38 rfl (lv_at hl 1 rfl) ?_
      refine z_get (A d0) hZ (ci := 5) (j := 18) ho_x0.1 ho_x0.2 (by decide) (by decide) k_fl_RX5_67 (v := .ref (base + 80)) (zv_fin (zf5 ho_x0 rfl) rfl) dX5_guessOf_39 ?_
      refine lv_iload_n hx hb dX5_guessOf_42 rfl (lv_at hl 2 rfl) ?_
      obtain ⟨hin, h⟩ := h
      refine z_lald (A d0) hZ (isA_c (a := 80) hZ.k0 (by decide) rfl) hin dX5_guessOf_43 ?_
      refine lv_l2d hx hb dX5_guessOf_44 ?_
      refine lv_ddiv_any hd0 lw_bits hx hb dX5_guessOf_45 (fun f4 d0 hal hd0 => ?_)
      replace h := h f4 hal
      refine lv_aload_n hx hb dX5_guessOf_46 rfl (lv_at hl 1 rfl) ?_
      refine z_get (A d0) hZ (ci := 5) (j := 17) ho_x0.1 ho_x0.2 (by decide) (by decide) k_fl_RX5_64 (v := .ref (base + 79)) (zv_fin (zf5 ho_x0 rfl) rfl) dX5_guessOf_47 ?_
      refine lv_iload_n hx hb dX5_guessOf_50 rfl (lv_at hl 2 rfl) ?_
      obtain ⟨hin, h⟩ := h
      refine z_lald (A d0) hZ (isA_c (a := 79) hZ.k0 (by decide) rfl) hin dX5_guessOf_51 ?_
      refine lv_l2d hx hb dX5_guessOf_52 ?_
      refine lv_aload_n hx hb dX5_guessOf_53 rfl (lv_at hl 1 rfl) ?_
      refine z_get (A d0) hZ (ci := 5) (j := 18) ho_x0.1 ho_x0.2 (by decide) (by decide) k_fl_RX5_67 (v := .ref (base + 80)) (zv_fin (zf5 ho_x0 rfl) rfl) dX5_guessOf_54 ?_
      refine lv_iload_n hx hb dX5_guessOf_57 rfl (lv_at hl 2 rfl) ?_
      obtain ⟨hin, h⟩ := h
      refine z_lald (A d0) hZ (isA_c (a := 80) hZ.k0 (by decide) rfl) hin dX5_guessOf_58 ?_
      refine lv_l2d hx hb dX5_guessOf_59 ?_
      refine lv_ddiv_any hd0 lw_bits hx hb dX5_guessOf_60 (fun f5 d0 hal hd0 => ?_)
      replace h := h f5 hal
      refine lv_lload_n hx hb dX5_guessOf_61 rfl (lv_at hl 3 rfl) ?_
      refine lv_aload_n hx hb dX5_guessOf_62 rfl (lv_at hl 1 rfl) ?_
      refine z_get (A d0) hZ (ci := 5) (j := 20) ho_x0.1 ho_x0.2 (by decide) (by decide) k_fl_RX5_73 (v := .ref (base + 82)) (zv_fin (zf5 ho_x0 rfl) rfl) dX5_guessOf_63 ?_
      refine lv_aload_n hx hb dX5_guessOf_66 rfl (lv_at hl 1 rfl) ?_
      refine z_get (A d0) hZ (ci := 5) (j := 13) ho_x0.1 ho_x0.2 (by decide) (by decide) k_fl_RX5_52 (v := .ref (base + 75)) (zv_fin (zf5 ho_x0 rfl) rfl) dX5_guessOf_67 ?_
      refine lv_iload_n hx hb dX5_guessOf_70 rfl (lv_at hl 2 rfl) ?_
      obtain ⟨hin, h⟩ := h
      refine z_iald (A d0) hZ (isA_c (a := 75) hZ.k0 (by decide) rfl) hin dX5_guessOf_71 ?_
      obtain ⟨hin, h⟩ := h
      refine z_lald (A d0) hZ (isA_c (a := 82) hZ.k0 (by decide) rfl) hin dX5_guessOf_72 ?_
      refine lv_lsub hx hb dX5_guessOf_73 ?_
      refine lv_l2d hx hb dX5_guessOf_74 ?_
      refine lv_dmul_any hd0 lw_bits hx hb dX5_guessOf_75 (fun f6 d0 hal hd0 => ?_)
      replace h := h f6 hal
      refine lv_dadd_any hd0 lw_bits hx hb dX5_guessOf_76 (fun f7 d0 hal hd0 => ?_)
      replace h := h f7 hal
      refine lv_dstore (lv' := [(5, .double f7), (4, .int i1), (0, .ref (base + x0)), (1, .int x1), (2, .long x2)]) hx hb dX5_guessOf_77 hl (by decide) rfl (fun ls hl2 => ?_)
      replace hl := hl2
      refine lv_dload hx hb dX5_guessOf_79 (lv_at hl 0 rfl) ?_
      refine lv_iload hx hb dX5_guessOf_81 (lv_at hl 1 rfl) ?_
      refine lv_i2d hx hb dX5_guessOf_83 ?_
      refine lv_dcmp hx hb dX5_guessOf_84 ?_
      refine lv_if_lt (tgt := 93) hx hb dX5_guessOf_85 (by decide) (fun hc => ?_) (fun hc => ?_)
      · replace h := h.1 hc
        refine lv_dload hx hb dX5_guessOf_93 (lv_at hl 0 rfl) ?_
        refine lv_dconst0 hx hb dX5_guessOf_95 ?_
        refine lv_dcmp hx hb dX5_guessOf_96 ?_
        refine lv_if_le (tgt := 106) hx hb dX5_guessOf_97 (by decide) (fun hc => ?_) (fun hc => ?_)
        · replace h := h.1 hc
          refine lv_iconst (v := (0 : Int32)) hx hb dX5_guessOf_106 (by decide) ?_
          exact (zb_X5_guessOf_107 A hr hd0 hZ (lv_sub hl [] rfl) h)
        · replace h := h.2 hc
          refine lv_dload hx hb dX5_guessOf_100 (lv_at hl 0 rfl) ?_
          refine lv_d2i hx hb dX5_guessOf_102 ?_
          refine lv_goto (tgt := 107) hx hb dX5_guessOf_103 (by decide) ?_
          exact (zb_X5_guessOf_107 A hr hd0 hZ (lv_sub hl [] rfl) h)
      · replace h := h.2 hc
        refine lv_iload hx hb dX5_guessOf_88 (lv_at hl 1 rfl) ?_
        refine lv_goto (tgt := 107) hx hb dX5_guessOf_90 (by decide) ?_
        exact (zb_X5_guessOf_107 A hr hd0 hZ (lv_sub hl [] rfl) h)
  · replace h := h.2 hc
    refine lv_iconst (v := (0 : Int32)) hx hb dX5_guessOf_19 (by decide) ?_
    exact z_iret A hd0 hZ hr ⟨_, rfl, h⟩ dX5_guessOf_20
/-! cX5_miss -/
set_option maxRecDepth 100000 in
set_option maxHeartbeats 4000000 in
theorem zb_X5_miss_61 {p : Program} {l : Launch} {e : Env} {R : Room} {s : State} {m : MethodId} {args : Array Value} {below : List Frame} {meth : Method} {c : Code} {G : ZG} {base z0 : Nat} {Q : Int32 → Mem → Prop} (A : ∀ d, Amb p R (s.setDrawn d) m args meth c G base z0 cX5_miss yX5_miss.cls 5 1 28) (hr : meth.sig.returnType = (some .int)) {K4 : Nat → Int32 → Int32 → Int32 → Mem → Prop} {K68 : Int32 → Mem → Prop} {d0 : Drawn} {H : Heap} {locs : List Loc} {cells slots : Nat} {ls : Array Slot} {x0 : Nat} {x1 : Int32} {x3 : Int32} {t0 : Int32} {M : Mem} (ho_x0 : isO M x0 5) (hd0 : s.drawn.sameBut d0 lw_cs) (hZ : ZH G true base s.heap M H locs) (hl : lv_has ls 5 [(0, .ref (base + x0)), (1, .int x1), (3, .int x3)]) (h : wp_X5_miss_61 x0 x1 x3 t0 M Q K4 K68) (hK4 : ∀ {d0 : Drawn} {H : Heap} {locs : List Loc} {cells slots : Nat} {ls : Array Slot} {x0 : Nat} {x1 : Int32} {x2 : Int32} {x3 : Int32} {M : Mem} (ho_x0 : isO M x0 5), s.drawn.sameBut d0 lw_cs → ZH G true base s.heap M H locs → lv_has ls 5 [(0, .ref (base + x0)), (1, .int x1), (2, .int x2), (3, .int x3)] → K4 x0 x1 x2 x3 M → W p l e R (s.setDrawn d0) m args below meth c H locs cells slots (ZEnd below G true base z0 (qI Q) args s) (F0 m 4 ls [])) (hK68 : ∀ {d0 : Drawn} {H : Heap} {locs : List Loc} {cells slots : Nat} {ls : Array Slot} {x2 : Int32} {M : Mem}, s.drawn.sameBut d0 lw_cs → ZH G true base s.heap M H locs → lv_has ls 5 [(2, .int x2)] → K68 x2 M → W p l e R (s.setDrawn d0) m args below meth c H locs cells slots (ZEnd below G true base z0 (qI Q) args s) (F0 m 68 ls [])) : W p l e R (s.setDrawn d0) m args below meth c H locs cells slots (ZEnd below G true base z0 (qI Q) args s) (F0 m 61 ls [.int t0]) := by
  have hx := (A d0).1
  have hb := (A d0).2.1
  unfold wp_X5_miss_61 at h
  refine lv_istore_n (lv' := [(2, .int t0), (0, .ref (base + x0)), (1, .int x1), (3, .int x3)]) hx hb dX5_miss_61 rfl hl (by decide) rfl (fun ls hl2 => ?_)
  replace hl := hl2
  obtain ⟨i4, ei4⟩ : ∃ y : Int32, y = x3 + (1 : Int32) := ⟨_, rfl⟩
  replace h := h i4 ei4
  refine lv_iinc (v := i4) (lv' := [(3, .int i4), (2, .int t0), (0, .ref (base + x0)), (1, .int x1)]) hx hb dX5_miss_62 hl (k := 3) rfl (by rw [ei4]; rfl) (by decide) rfl (fun ls hl2 => ?_)
  replace hl := hl2
  refine lv_goto (tgt := 4) hx hb dX5_miss_65 (by decide) ?_
  exact hK4 ho_x0 hd0 hZ (lv_sub hl [2, 3, 1, 0] rfl) h
set_option maxRecDepth 100000 in
set_option maxHeartbeats 4000000 in
theorem zb_X5_miss_68 {p : Program} {l : Launch} {e : Env} {R : Room} {s : State} {m : MethodId} {args : Array Value} {below : List Frame} {meth : Method} {c : Code} {G : ZG} {base z0 : Nat} {Q : Int32 → Mem → Prop} (A : ∀ d, Amb p R (s.setDrawn d) m args meth c G base z0 cX5_miss yX5_miss.cls 5 1 28) (hr : meth.sig.returnType = (some .int)) {d0 : Drawn} {H : Heap} {locs : List Loc} {cells slots : Nat} {ls : Array Slot} {x2 : Int32} {M : Mem} (hd0 : s.drawn.sameBut d0 lw_cs) (hZ : ZH G true base s.heap M H locs) (hl : lv_has ls 5 [(2, .int x2)]) (h : wp_X5_miss_68 x2 M Q) : W p l e R (s.setDrawn d0) m args below meth c H locs cells slots (ZEnd below G true base z0 (qI Q) args s) (F0 m 68 ls []) := by
  have hx := (A d0).1
  have hb := (A d0).2.1
  unfold wp_X5_miss_68 at h
  refine lv_iload_n hx hb dX5_miss_68 rfl (lv_at hl 0 rfl) ?_
  exact z_iret A hd0 hZ hr ⟨_, rfl, h⟩ dX5_miss_69
set_option maxRecDepth 100000 in
set_option maxHeartbeats 4000000 in
theorem zb_X5_miss_4 {p : Program} {l : Launch} {e : Env} {R : Room} {s : State} {m : MethodId} {args : Array Value} {below : List Frame} {meth : Method} {c : Code} {G : ZG} {base z0 : Nat} {Q : Int32 → Mem → Prop} (A : ∀ d, Amb p R (s.setDrawn d) m args meth c G base z0 cX5_miss yX5_miss.cls 5 1 28) (hr : meth.sig.returnType = (some .int)) {K68 : Int32 → Mem → Prop} :
  ∀ (n : Nat) {d0 : Drawn} {H : Heap} {locs : List Loc} {cells slots : Nat} {ls : Array Slot} {x0 : Nat} {x1 : Int32} {x2 : Int32} {x3 : Int32} {M : Mem} (ho_x0 : isO M x0 5) (hd0 : s.drawn.sameBut d0 lw_cs) (hZ : ZH G true base s.heap M H locs) (hl : lv_has ls 5 [(0, .ref (base + x0)), (1, .int x1), (2, .int x2), (3, .int x3)]) (h : wp_X5_miss_4 n x0 x1 x2 x3 M Q K68) (hK68 : ∀ {d0 : Drawn} {H : Heap} {locs : List Loc} {cells slots : Nat} {ls : Array Slot} {x2 : Int32} {M : Mem}, s.drawn.sameBut d0 lw_cs → ZH G true base s.heap M H locs → lv_has ls 5 [(2, .int x2)] → K68 x2 M → W p l e R (s.setDrawn d0) m args below meth c H locs cells slots (ZEnd below G true base z0 (qI Q) args s) (F0 m 68 ls [])), W p l e R (s.setDrawn d0) m args below meth c H locs cells slots (ZEnd below G true base z0 (qI Q) args s) (F0 m 4 ls []) := by
  have hx := (A default).1
  have hb := (A default).2.1
  intro n
  induction n with
  | zero => intro d0 H locs cells slots ls x0 x1 x2 x3 M ho_x0 hd0 hZ hl h hK68; exact h.elim
  | succ n ih =>
    intro d0 H locs cells slots ls x0 x1 x2 x3 M ho_x0 hd0 hZ hl h hK68
    unfold wp_X5_miss_4 at h
    refine lv_iload_n hx hb dX5_miss_4 rfl (lv_at hl 3 rfl) ?_
    refine lv_aload_n hx hb dX5_miss_5 rfl (lv_at hl 0 rfl) ?_
    refine z_get (A d0) hZ (ci := 5) (j := 14) ho_x0.1 ho_x0.2 (by decide) (by decide) k_fl_RX5_55 (v := .ref (base + 76)) (zv_fin (zf5 ho_x0 rfl) rfl) dX5_miss_6 ?_
    refine lv_iload_n hx hb dX5_miss_9 rfl (lv_at hl 1 rfl) ?_
    obtain ⟨hin, h⟩ := h
    refine z_iald (A d0) hZ (isA_c (a := 76) hZ.k0 (by decide) rfl) hin dX5_miss_10 ?_
    refine lv_icmp_ge (tgt := 68) hx hb dX5_miss_11 (by decide) (fun hc => ?_) (fun hc => ?_)
    · replace h := h.1 hc
      exact hK68 hd0 hZ (lv_sub hl [2] rfl) h
    · replace h := h.2 hc
      refine lv_aload_n hx hb dX5_miss_14 rfl (lv_at hl 0 rfl) ?_
      refine lv_iload_n hx hb dX5_miss_15 rfl (lv_at hl 1 rfl) ?_
      refine lv_aload_n hx hb dX5_miss_16 rfl (lv_at hl 0 rfl) ?_
      refine z_get (A d0) hZ (ci := 5) (j := 20) ho_x0.1 ho_x0.2 (by decide) (by decide) k_fl_RX5_73 (v := .ref (base + 82)) (zv_fin (zf5 ho_x0 rfl) rfl) dX5_miss_17 ?_
      refine lv_aload_n hx hb dX5_miss_20 rfl (lv_at hl 0 rfl) ?_
      refine z_get (A d0) hZ (ci := 5) (j := 13) ho_x0.1 ho_x0.2 (by decide) (by decide) k_fl_RX5_52 (v := .ref (base + 75)) (zv_fin (zf5 ho_x0 rfl) rfl) dX5_miss_21 ?_
      refine lv_iload_n hx hb dX5_miss_24 rfl (lv_at hl 1 rfl) ?_
      obtain ⟨hin, h⟩ := h
      refine z_iald (A d0) hZ (isA_c (a := 75) hZ.k0 (by decide) rfl) hin dX5_miss_25 ?_
      refine lv_iload_n hx hb dX5_miss_26 rfl (lv_at hl 3 rfl) ?_
      refine lv_iadd hx hb dX5_miss_27 ?_
      obtain ⟨hin, h⟩ := h
      refine z_lald (A d0) hZ (isA_c (a := 82) hZ.k0 (by decide) rfl) hin dX5_miss_28 ?_
      refine z_callV A hd0 hZ (ci := 5) (nA := 2) (As := [.int x1, .long (mL M 82 ((mI M 75 x1.toNatClampNeg) + x3).toNatClampNeg)]) (by decide) ho_x0 (c_X5_guessOf l G base M x0 x1 (mL M 82 ((mI M 75 x1.toNatClampNeg) + x3).toNatClampNeg) _ h) k_ml_RX5_235 k_im_yX5_guessOf k_se_yX5_guessOf k_in_RX5 k_co_yX5_guessOf (by decide +kernel) ⟨by decide, by decide⟩ rfl rfl (Nat.le_of_ble_eq_true rfl) hl dX5_miss_29 (fun v M1 H locs d0 cells slots hq hd0 hZ hm => ?_)
      clear h
      obtain ⟨i2, rfl, h⟩ := hq
      have ho_x0 := isO_le hm ho_x0
      refine lv_iload_n hx hb dX5_miss_32 rfl (lv_at hl 3 rfl) ?_
      refine lv_isub hx hb dX5_miss_33 ?_
      obtain ⟨i3, ei3⟩ : ∃ y : Int32, y = i2 - x3 := ⟨_, rfl⟩
      rw [← ei3]
      replace h := h i3 ei3
      refine lv_istore (lv' := [(4, .int i3), (0, .ref (base + x0)), (1, .int x1), (2, .int x2), (3, .int x3)]) hx hb dX5_miss_34 hl (by decide) rfl (fun ls hl2 => ?_)
      replace hl := hl2
      refine lv_iload hx hb dX5_miss_36 (lv_at hl 0 rfl) ?_
      refine lv_iload_n hx hb dX5_miss_38 rfl (lv_at hl 3 rfl) ?_
      refine lv_icmp_le (tgt := 47) hx hb dX5_miss_39 (by decide) (fun hc => ?_) (fun hc => ?_)
      · replace h := h.1 hc
        refine lv_iload hx hb dX5_miss_47 (lv_at hl 0 rfl) ?_
        refine lv_ineg hx hb dX5_miss_49 ?_
        refine lv_iload_n hx hb dX5_miss_50 rfl (lv_at hl 3 rfl) ?_
        refine lv_icmp_le (tgt := 60) hx hb dX5_miss_51 (by decide) (fun hc => ?_) (fun hc => ?_)
        · replace h := h.1 hc
          refine lv_iload_n hx hb dX5_miss_60 rfl (lv_at hl 3 rfl) ?_
          exact (zb_X5_miss_61 A hr ho_x0 hd0 hZ (lv_sub hl [1, 2, 4] rfl) h (fun ho_x0 hd0 hZ hl h => ih ho_x0 hd0 hZ hl h hK68) hK68)
        · replace h := h.2 hc
          refine lv_iload hx hb dX5_miss_54 (lv_at hl 0 rfl) ?_
          refine lv_ineg hx hb dX5_miss_56 ?_
          refine lv_goto (tgt := 61) hx hb dX5_miss_57 (by decide) ?_
          exact (zb_X5_miss_61 A hr ho_x0 hd0 hZ (lv_sub hl [1, 2, 4] rfl) h (fun ho_x0 hd0 hZ hl h => ih ho_x0 hd0 hZ hl h hK68) hK68)
      · replace h := h.2 hc
        refine lv_iload hx hb dX5_miss_42 (lv_at hl 0 rfl) ?_
        refine lv_goto (tgt := 61) hx hb dX5_miss_44 (by decide) ?_
        exact (zb_X5_miss_61 A hr ho_x0 hd0 hZ (lv_sub hl [1, 2, 4] rfl) h (fun ho_x0 hd0 hZ hl h => ih ho_x0 hd0 hZ hl h hK68) hK68)
set_option maxRecDepth 100000 in
set_option maxHeartbeats 4000000 in
theorem c_X5_miss (l : Launch) (G : ZG) (base : Nat) (M : Mem) (x0 : Nat) (x1 : Int32) (Q : Int32 → Mem → Prop) (h : wp_X5_miss x0 x1 M Q) : ZMet l yX5_miss cX5_miss 5 (some .int) 1 28 G true base M [.ref (base + x0), .int x1] (qI Q) := by
  refine z_start (by decide) (Nat.le_of_ble_eq_true rfl) k_co_yX5_miss ?_
  intro p e s m below meth c R d0 H locs cells slots ls A hr hn hd0 hZ hl
  have hx := (A d0).1
  have hb := (A d0).2.1
  have hl : lv_has ls 5 [(0, .ref (base + x0)), (1, .int x1)] := hl
  unfold wp_X5_miss at h
  obtain ⟨ho_x0, h⟩ := h
  refine lv_iconst (v := (0 : Int32)) hx hb dX5_miss_0 (by decide) ?_
  refine lv_istore_n (lv' := [(2, .int (0 : Int32)), (0, .ref (base + x0)), (1, .int x1)]) hx hb dX5_miss_1 rfl hl (by decide) rfl (fun ls hl2 => ?_)
  replace hl := hl2
  refine lv_iconst (v := (0 : Int32)) hx hb dX5_miss_2 (by decide) ?_
  refine lv_istore_n (lv' := [(3, .int (0 : Int32)), (2, .int (0 : Int32)), (0, .ref (base + x0)), (1, .int x1)]) hx hb dX5_miss_3 rfl hl (by decide) rfl (fun ls hl2 => ?_)
  replace hl := hl2
  exact (Exists.elim h fun kk h => zb_X5_miss_4 A hr kk ho_x0 hd0 hZ (lv_sub hl [2, 3, 1, 0] rfl) h (fun hd0 hZ hl h => (zb_X5_miss_68 A hr hd0 hZ hl h)))
/-! cX5_lean -/
set_option maxRecDepth 100000 in
set_option maxHeartbeats 4000000 in
theorem zb_X5_lean_77 {p : Program} {l : Launch} {e : Env} {R : Room} {s : State} {m : MethodId} {args : Array Value} {below : List Frame} {meth : Method} {c : Code} {G : ZG} {base z0 : Nat} {Q : Mem → Prop} (A : ∀ d, Amb p R (s.setDrawn d) m args meth c G base z0 cX5_lean yX5_lean.cls 10 2 55) (hr : meth.sig.returnType = none) {K121 : Nat → Int32 → Int32 → Int32 → Int32 → Int32 → Mem → Prop} :
  ∀ (n : Nat) {d0 : Drawn} {H : Heap} {locs : List Loc} {cells slots : Nat} {ls : Array Slot} {x0 : Nat} {x1 : Int32} {x2 : Int32} {x3 : Int32} {x4 : Int32} {x5 : Int32} {x6 : Int32} {x7 : Int32} {M : Mem} (ho_x0 : isO M x0 5) (hd0 : s.drawn.sameBut d0 lw_cs) (hZ : ZH G true base s.heap M H locs) (hl : lv_has ls 10 [(0, .ref (base + x0)), (1, .int x1), (2, .int x2), (3, .int x3), (4, .int x4), (5, .int x5), (6, .int x6), (7, .int x7)]) (h : wp_X5_lean_77 n x0 x1 x2 x3 x4 x5 x6 x7 M Q K121) (hK121 : ∀ {d0 : Drawn} {H : Heap} {locs : List Loc} {cells slots : Nat} {ls : Array Slot} {x0 : Nat} {x1 : Int32} {x2 : Int32} {x3 : Int32} {x4 : Int32} {x5 : Int32} {M : Mem} (ho_x0 : isO M x0 5), s.drawn.sameBut d0 lw_cs → ZH G true base s.heap M H locs → lv_has ls 10 [(0, .ref (base + x0)), (1, .int x1), (2, .int x2), (3, .int x3), (4, .int x4), (5, .int x5)] → K121 x0 x1 x2 x3 x4 x5 M → W p l e R (s.setDrawn d0) m args below meth c H locs cells slots (ZEnd below G true base z0 (qV Q) args s) (F0 m 121 ls [])), W p l e R (s.setDrawn d0) m args below meth c H locs cells slots (ZEnd below G true base z0 (qV Q) args s) (F0 m 77 ls []) := by
  have hx := (A default).1
  have hb := (A default).2.1
  intro n
  induction n with
  | zero => intro d0 H locs cells slots ls x0 x1 x2 x3 x4 x5 x6 x7 M ho_x0 hd0 hZ hl h hK121; exact h.elim
  | succ n ih =>
    intro d0 H locs cells slots ls x0 x1 x2 x3 x4 x5 x6 x7 M ho_x0 hd0 hZ hl h hK121
    unfold wp_X5_lean_77 at h
    refine lv_iload hx hb dX5_lean_77 (lv_at hl 7 rfl) ?_
    refine lv_iload_n hx hb dX5_lean_79 rfl (lv_at hl 3 rfl) ?_
    refine lv_icmp_ge (tgt := 121) hx hb dX5_lean_80 (by decide) (fun hc => ?_) (fun hc => ?_)
    · replace h := h.1 hc
      exact hK121 ho_x0 hd0 hZ (lv_sub hl [0, 1, 2, 3, 4, 5] rfl) h
    · replace h := h.2 hc
      refine lv_aload_n hx hb dX5_lean_83 rfl (lv_at hl 0 rfl) ?_
      refine z_get (A d0) hZ (ci := 5) (j := 20) ho_x0.1 ho_x0.2 (by decide) (by decide) k_fl_RX5_73 (v := .ref (base + 82)) (zv_fin (zf5 ho_x0 rfl) rfl) dX5_lean_84 ?_
      refine lv_iload hx hb dX5_lean_87 (lv_at hl 6 rfl) ?_
      refine lv_iload hx hb dX5_lean_89 (lv_at hl 7 rfl) ?_
      refine lv_iadd hx hb dX5_lean_91 ?_
      refine lv_iload_n hx hb dX5_lean_92 rfl (lv_at hl 2 rfl) ?_
      refine lv_isub hx hb dX5_lean_93 ?_
      refine lv_aload_n hx hb dX5_lean_94 rfl (lv_at hl 0 rfl) ?_
      refine z_get (A d0) hZ (ci := 5) (j := 3) ho_x0.1 ho_x0.2 (by decide) (by decide) k_fl_RX5_20 (v := .ref (base + 71)) (zv_fin (zf5 ho_x0 rfl) rfl) dX5_lean_95 ?_
      refine lv_iload hx hb dX5_lean_98 (lv_at hl 7 rfl) ?_
      obtain ⟨hin, h⟩ := h
      refine z_lald (A d0) hZ (isA_c (a := 71) hZ.k0 (by decide) rfl) hin dX5_lean_100 ?_
      obtain ⟨hin, h⟩ := h
      obtain ⟨M9, eM9⟩ : ∃ y : Mem, y = sL M 82 ((x6 + x7) - x2).toNatClampNeg (mL M 71 x7.toNatClampNeg) := ⟨_, rfl⟩
      refine z_last (A d0) hZ (isA_c (a := 82) hZ.k0 (by decide) rfl) hin dX5_lean_101 (fun H locs hZ => ?_)
      rw [← eM9] at hZ
      have hm : mz M9 = mz M := by rw [eM9] <;> rfl
      have ho_x0 := isO_le (Nat.le_of_eq hm.symm) ho_x0
      replace h := h M9 eM9
      refine lv_aload_n hx hb dX5_lean_102 rfl (lv_at hl 0 rfl) ?_
      refine z_get (A d0) hZ (ci := 5) (j := 22) ho_x0.1 ho_x0.2 (by decide) (by decide) k_fl_RX5_80 (v := .ref (base + 84)) (zv_fin (zf5 ho_x0 rfl) rfl) dX5_lean_103 ?_
      refine lv_iload hx hb dX5_lean_106 (lv_at hl 6 rfl) ?_
      refine lv_iload hx hb dX5_lean_108 (lv_at hl 7 rfl) ?_
      refine lv_iadd hx hb dX5_lean_110 ?_
      refine lv_iload_n hx hb dX5_lean_111 rfl (lv_at hl 2 rfl) ?_
      refine lv_isub hx hb dX5_lean_112 ?_
      refine lv_iconst (v := (0 : Int32)) hx hb dX5_lean_113 (by decide) ?_
      obtain ⟨hin, h⟩ := h
      obtain ⟨M10, eM10⟩ : ∃ y : Mem, y = sI M9 84 ((x6 + x7) - x2).toNatClampNeg (0 : Int32) := ⟨_, rfl⟩
      refine z_zast (A d0) hZ (isA_c (a := 84) hZ.k0 (by decide) rfl) hin (Or.inl rfl) dX5_lean_114 (fun H locs hZ => ?_)
      rw [← eM10] at hZ
      have hm : mz M10 = mz M9 := by rw [eM10] <;> rfl
      have ho_x0 := isO_le (Nat.le_of_eq hm.symm) ho_x0
      replace h := h M10 eM10
      obtain ⟨i11, ei11⟩ : ∃ y : Int32, y = x7 + (1 : Int32) := ⟨_, rfl⟩
      replace h := h i11 ei11
      refine lv_iinc (v := i11) (lv' := [(7, .int i11), (0, .ref (base + x0)), (1, .int x1), (2, .int x2), (3, .int x3), (4, .int x4), (5, .int x5), (6, .int x6)]) hx hb dX5_lean_115 hl (k := 7) rfl (by rw [ei11]; rfl) (by decide) rfl (fun ls hl2 => ?_)
      replace hl := hl2
      refine lv_goto (tgt := 77) hx hb dX5_lean_118 (by decide) ?_
      exact ih ho_x0 hd0 hZ (lv_sub hl [1, 2, 3, 4, 5, 6, 7, 0] rfl) h hK121
set_option maxRecDepth 100000 in
set_option maxHeartbeats 4000000 in
theorem zb_X5_lean_251 {p : Program} {l : Launch} {e : Env} {R : Room} {s : State} {m : MethodId} {args : Array Value} {below : List Frame} {meth : Method} {c : Code} {G : ZG} {base z0 : Nat} {Q : Mem → Prop} (A : ∀ d, Amb p R (s.setDrawn d) m args meth c G base z0 cX5_lean yX5_lean.cls 10 2 55) (hr : meth.sig.returnType = none) {d0 : Drawn} {H : Heap} {locs : List Loc} {cells slots : Nat} {ls : Array Slot}  {M : Mem} (hd0 : s.drawn.sameBut d0 lw_cs) (hZ : ZH G true base s.heap M H locs) (hl : lv_has ls 10 []) (h : wp_X5_lean_251 M Q) : W p l e R (s.setDrawn d0) m args below meth c H locs cells slots (ZEnd below G true base z0 (qV Q) args s) (F0 m 251 ls []) := by
  have hx := (A d0).1
  have hb := (A d0).2.1
  unfold wp_X5_lean_251 at h
  exact z_vret A hd0 hZ hr ⟨rfl, h⟩ dX5_lean_251
set_option maxRecDepth 100000 in
set_option maxHeartbeats 4000000 in
theorem zb_X5_lean_121 {p : Program} {l : Launch} {e : Env} {R : Room} {s : State} {m : MethodId} {args : Array Value} {below : List Frame} {meth : Method} {c : Code} {G : ZG} {base z0 : Nat} {Q : Mem → Prop} (A : ∀ d, Amb p R (s.setDrawn d) m args meth c G base z0 cX5_lean yX5_lean.cls 10 2 55) (hr : meth.sig.returnType = none) {d0 : Drawn} {H : Heap} {locs : List Loc} {cells slots : Nat} {ls : Array Slot} {x0 : Nat} {x1 : Int32} {x2 : Int32} {x3 : Int32} {x4 : Int32} {x5 : Int32} {M : Mem} (ho_x0 : isO M x0 5) (hd0 : s.drawn.sameBut d0 lw_cs) (hZ : ZH G true base s.heap M H locs) (hl : lv_has ls 10 [(0, .ref (base + x0)), (1, .int x1), (2, .int x2), (3, .int x3), (4, .int x4), (5, .int x5)]) (h : wp_X5_lean_121 x0 x1 x2 x3 x4 x5 M Q) : W p l e R (s.setDrawn d0) m args below meth c H locs cells slots (ZEnd below G true base z0 (qV Q) args s) (F0 m 121 ls []) := by
  have hx := (A d0).1
  have hb := (A d0).2.1
  unfold wp_X5_lean_121 at h
  refine lv_iload_n hx hb dX5_lean_121 rfl (lv_at hl 3 rfl) ?_
  refine lv_iload_n hx hb dX5_lean_122 rfl (lv_at hl 2 rfl) ?_
  refine lv_isub hx hb dX5_lean_123 ?_
  refine lv_iconst (v := (1 : Int32)) hx hb dX5_lean_124 (by decide) ?_
  refine lv_icmp_ne (tgt := 129) hx hb dX5_lean_125 (by decide) (fun hc => ?_) (fun hc => ?_)
  · replace h := h.1 hc
    refine lv_aload_n hx hb dX5_lean_129 rfl (lv_at hl 0 rfl) ?_
    refine lv_iload_n hx hb dX5_lean_130 rfl (lv_at hl 2 rfl) ?_
    refine lv_iload_n hx hb dX5_lean_131 rfl (lv_at hl 3 rfl) ?_
    refine lv_iload hx hb dX5_lean_132 (lv_at hl 4 rfl) ?_
    refine z_callV A hd0 hZ (ci := 5) (nA := 3) (As := [.int x2, .int x3, .int x4]) (by decide) ho_x0 (c_X5_passed l G base M x0 x2 x3 x4 _ h) k_ml_RX5_189 k_im_yX5_passed k_se_yX5_passed k_in_RX5 k_co_yX5_passed (by decide +kernel) ⟨by decide, by decide⟩ rfl rfl (Nat.le_of_ble_eq_true rfl) hl dX5_lean_134 (fun v M12 H locs d0 cells slots hq hd0 hZ hm => ?_)
    clear h
    obtain ⟨i13, rfl, h⟩ := hq
    have ho_x0 := isO_le hm ho_x0
    refine lv_istore (lv' := [(7, .int i13), (0, .ref (base + x0)), (1, .int x1), (2, .int x2), (3, .int x3), (4, .int x4), (5, .int x5)]) hx hb dX5_lean_137 hl (by decide) rfl (fun ls hl2 => ?_)
    replace hl := hl2
    refine lv_aload_n hx hb dX5_lean_139 rfl (lv_at hl 1 rfl) ?_
    refine lv_aload_n hx hb dX5_lean_140 rfl (lv_at hl 1 rfl) ?_
    refine z_get (A d0) hZ (ci := 5) (j := 4) ho_x0.1 ho_x0.2 (by decide) (by decide) k_fl_RX5_23 (v := .long (mL M12 x0 4)) rfl dX5_lean_141 ?_
    refine lv_aload_n hx hb dX5_lean_144 rfl (lv_at hl 1 rfl) ?_
    refine z_get (A d0) hZ (ci := 5) (j := 5) ho_x0.1 ho_x0.2 (by decide) (by decide) k_fl_RX5_27 (v := .long (mL M12 x0 5)) rfl dX5_lean_145 ?_
    refine z_callV A hd0 hZ (ci := 5) (nA := 2) (As := [.long (mL M12 x0 4), .long (mL M12 x0 5)]) (by decide) ho_x0 (c_X5_divisor l G base M12 x0 (mL M12 x0 4) (mL M12 x0 5) _ h) k_ml_RX5_193 k_im_yX5_divisor k_se_yX5_divisor k_in_RX5 k_co_yX5_divisor (by decide +kernel) ⟨by decide, by decide⟩ rfl rfl (Nat.le_of_ble_eq_true rfl) hl dX5_lean_148 (fun v M14 H locs d0 cells slots hq hd0 hZ hm => ?_)
    clear h
    obtain ⟨j15, rfl, h⟩ := hq
    have ho_x0 := isO_le hm ho_x0
    refine lv_lstore (lv' := [(8, .long j15), (7, .int i13), (0, .ref (base + x0)), (1, .int x1), (2, .int x2), (3, .int x3), (4, .int x4), (5, .int x5)]) hx hb dX5_lean_151 hl (by decide) rfl (fun ls hl2 => ?_)
    replace hl := hl2
    refine lv_aload_n hx hb dX5_lean_153 rfl (lv_at hl 2 rfl) ?_
    refine z_get (A d0) hZ (ci := 5) (j := 17) ho_x0.1 ho_x0.2 (by decide) (by decide) k_fl_RX5_64 (v := .ref (base + 79)) (zv_fin (zf5 ho_x0 rfl) rfl) dX5_lean_154 ?_
    refine lv_iload_n hx hb dX5_lean_157 rfl (lv_at hl 3 rfl) ?_
    refine lv_aload_n hx hb dX5_lean_158 rfl (lv_at hl 2 rfl) ?_
    refine z_get (A d0) hZ (ci := 5) (j := 4) ho_x0.1 ho_x0.2 (by decide) (by decide) k_fl_RX5_23 (v := .long (mL M14 x0 4)) rfl dX5_lean_159 ?_
    refine lv_lload hx hb dX5_lean_162 (lv_at hl 0 rfl) ?_
    obtain ⟨hne, h⟩ := h
    refine lv_ldiv hx hb dX5_lean_164 hne ?_
    obtain ⟨hin, h⟩ := h
    obtain ⟨M16, eM16⟩ : ∃ y : Mem, y = sL M14 79 x1.toNatClampNeg ((mL M14 x0 4) / j15) := ⟨_, rfl⟩
    refine z_last (A d0) hZ (isA_c (a := 79) hZ.k0 (by decide) rfl) hin dX5_lean_165 (fun H locs hZ => ?_)
    rw [← eM16] at hZ
    have hm : mz M16 = mz M14 := by rw [eM16] <;> rfl
    have ho_x0 := isO_le (Nat.le_of_eq hm.symm) ho_x0
    replace h := h M16 eM16
    refine lv_aload_n hx hb dX5_lean_166 rfl (lv_at hl 2 rfl) ?_
    refine z_get (A d0) hZ (ci := 5) (j := 18) ho_x0.1 ho_x0.2 (by decide) (by decide) k_fl_RX5_67 (v := .ref (base + 80)) (zv_fin (zf5 ho_x0 rfl) rfl) dX5_lean_167 ?_
    refine lv_iload_n hx hb dX5_lean_170 rfl (lv_at hl 3 rfl) ?_
    refine lv_aload_n hx hb dX5_lean_171 rfl (lv_at hl 2 rfl) ?_
    refine z_get (A d0) hZ (ci := 5) (j := 5) ho_x0.1 ho_x0.2 (by decide) (by decide) k_fl_RX5_27 (v := .long (mL M16 x0 5)) rfl dX5_lean_172 ?_
    refine lv_lload hx hb dX5_lean_175 (lv_at hl 0 rfl) ?_
    obtain ⟨hne, h⟩ := h
    refine lv_ldiv hx hb dX5_lean_177 hne ?_
    obtain ⟨hin, h⟩ := h
    obtain ⟨M17, eM17⟩ : ∃ y : Mem, y = sL M16 80 x1.toNatClampNeg ((mL M16 x0 5) / j15) := ⟨_, rfl⟩
    refine z_last (A d0) hZ (isA_c (a := 80) hZ.k0 (by decide) rfl) hin dX5_lean_178 (fun H locs hZ => ?_)
    rw [← eM17] at hZ
    have hm : mz M17 = mz M16 := by rw [eM17] <;> rfl
    have ho_x0 := isO_le (Nat.le_of_eq hm.symm) ho_x0
    replace h := h M17 eM17
    refine lv_aload_n hx hb dX5_lean_179 rfl (lv_at hl 2 rfl) ?_
    refine z_get (A d0) hZ (ci := 5) (j := 19) ho_x0.1 ho_x0.2 (by decide) (by decide) k_fl_RX5_70 (v := .ref (base + 81)) (zv_fin (zf5 ho_x0 rfl) rfl) dX5_lean_180 ?_
    refine lv_iload_n hx hb dX5_lean_183 rfl (lv_at hl 3 rfl) ?_
    refine lv_aload_n hx hb dX5_lean_184 rfl (lv_at hl 2 rfl) ?_
    refine z_get (A d0) hZ (ci := 5) (j := 18) ho_x0.1 ho_x0.2 (by decide) (by decide) k_fl_RX5_67 (v := .ref (base + 80)) (zv_fin (zf5 ho_x0 rfl) rfl) dX5_lean_185 ?_
    refine lv_iload_n hx hb dX5_lean_188 rfl (lv_at hl 3 rfl) ?_
    obtain ⟨hin, h⟩ := h
    refine z_lald (A d0) hZ (isA_c (a := 80) hZ.k0 (by decide) rfl) hin dX5_lean_189 ?_
    refine lv_aload_n hx hb dX5_lean_190 rfl (lv_at hl 2 rfl) ?_
    refine z_get (A d0) hZ (ci := 5) (j := 8) ho_x0.1 ho_x0.2 (by decide) (by decide) k_fl_RX5_36 (v := .int (mI M17 x0 8)) rfl dX5_lean_191 ?_
    refine lv_iload_n hx hb dX5_lean_194 rfl (lv_at hl 4 rfl) ?_
    refine lv_isub hx hb dX5_lean_195 ?_
    refine lv_iload hx hb dX5_lean_196 (lv_at hl 6 rfl) ?_
    refine lv_isub hx hb dX5_lean_198 ?_
    refine lv_i2l hx hb dX5_lean_199 rfl ?_
    refine lv_lmul hx hb dX5_lean_200 ?_
    refine lv_aload_n hx hb dX5_lean_201 rfl (lv_at hl 2 rfl) ?_
    refine z_get (A d0) hZ (ci := 5) (j := 17) ho_x0.1 ho_x0.2 (by decide) (by decide) k_fl_RX5_64 (v := .ref (base + 79)) (zv_fin (zf5 ho_x0 rfl) rfl) dX5_lean_202 ?_
    refine lv_iload_n hx hb dX5_lean_205 rfl (lv_at hl 3 rfl) ?_
    obtain ⟨hin, h⟩ := h
    refine z_lald (A d0) hZ (isA_c (a := 79) hZ.k0 (by decide) rfl) hin dX5_lean_206 ?_
    refine lv_aload_n hx hb dX5_lean_207 rfl (lv_at hl 2 rfl) ?_
    refine z_get (A d0) hZ (ci := 5) (j := 3) ho_x0.1 ho_x0.2 (by decide) (by decide) k_fl_RX5_20 (v := .ref (base + 71)) (zv_fin (zf5 ho_x0 rfl) rfl) dX5_lean_208 ?_
    refine lv_aload_n hx hb dX5_lean_211 rfl (lv_at hl 2 rfl) ?_
    refine z_get (A d0) hZ (ci := 5) (j := 8) ho_x0.1 ho_x0.2 (by decide) (by decide) k_fl_RX5_36 (v := .int (mI M17 x0 8)) rfl dX5_lean_212 ?_
    obtain ⟨hin, h⟩ := h
    refine z_lald (A d0) hZ (isA_c (a := 71) hZ.k0 (by decide) rfl) hin dX5_lean_215 ?_
    refine lv_aload_n hx hb dX5_lean_216 rfl (lv_at hl 2 rfl) ?_
    refine z_get (A d0) hZ (ci := 5) (j := 3) ho_x0.1 ho_x0.2 (by decide) (by decide) k_fl_RX5_20 (v := .ref (base + 71)) (zv_fin (zf5 ho_x0 rfl) rfl) dX5_lean_217 ?_
    refine lv_iload_n hx hb dX5_lean_220 rfl (lv_at hl 4 rfl) ?_
    obtain ⟨hin, h⟩ := h
    refine z_lald (A d0) hZ (isA_c (a := 71) hZ.k0 (by decide) rfl) hin dX5_lean_221 ?_
    refine lv_lsub hx hb dX5_lean_222 ?_
    refine lv_lmul hx hb dX5_lean_223 ?_
    refine lv_lsub hx hb dX5_lean_224 ?_
    obtain ⟨hin, h⟩ := h
    obtain ⟨M18, eM18⟩ : ∃ y : Mem, y = sL M17 81 x1.toNatClampNeg (((mL M17 80 x1.toNatClampNeg) * ((((mI M17 x0 8) - x2) - x4).toInt64)) - ((mL M17 79 x1.toNatClampNeg) * ((mL M17 71 (mI M17 x0 8).toNatClampNeg) - (mL M17 71 x2.toNatClampNeg)))) := ⟨_, rfl⟩
    refine z_last (A d0) hZ (isA_c (a := 81) hZ.k0 (by decide) rfl) hin dX5_lean_225 (fun H locs hZ => ?_)
    rw [← eM18] at hZ
    have hm : mz M18 = mz M17 := by rw [eM18] <;> rfl
    have ho_x0 := isO_le (Nat.le_of_eq hm.symm) ho_x0
    replace h := h M18 eM18
    refine lv_iload hx hb dX5_lean_226 (lv_at hl 7 rfl) ?_
    refine lv_iconst (v := (2 : Int32)) hx hb dX5_lean_228 (by decide) ?_
    refine lv_icmp_ne (tgt := 251) hx hb dX5_lean_229 (by decide) (fun hc => ?_) (fun hc => ?_)
    · replace h := h.1 hc
      exact (zb_X5_lean_251 A hr hd0 hZ (lv_sub hl [] rfl) h)
    · replace h := h.2 hc
      refine lv_aload_n hx hb dX5_lean_232 rfl (lv_at hl 2 rfl) ?_
      refine lv_iload_n hx hb dX5_lean_233 rfl (lv_at hl 3 rfl) ?_
      refine z_callV A hd0 hZ (ci := 5) (nA := 1) (As := [.int x1]) (by decide) ho_x0 (c_X5_miss l G base M18 x0 x1 _ h) k_ml_RX5_197 k_im_yX5_miss k_se_yX5_miss k_in_RX5 k_co_yX5_miss (by decide +kernel) ⟨by decide, by decide⟩ rfl rfl (Nat.le_of_ble_eq_true rfl) hl dX5_lean_234 (fun v M19 H locs d0 cells slots hq hd0 hZ hm => ?_)
      clear h
      obtain ⟨i20, rfl, h⟩ := hq
      have ho_x0 := isO_le hm ho_x0
      refine lv_aload_n hx hb dX5_lean_237 rfl (lv_at hl 2 rfl) ?_
      refine z_get (A d0) hZ (ci := 5) (j := 2) ho_x0.1 ho_x0.2 (by decide) (by decide) k_fl_RX5_17 (v := .int (mI M19 x0 2)) rfl dX5_lean_238 ?_
      refine lv_icmp_le (tgt := 251) hx hb dX5_lean_241 (by decide) (fun hc => ?_) (fun hc => ?_)
      · replace h := h.1 hc
        exact (zb_X5_lean_251 A hr hd0 hZ (lv_sub hl [] rfl) h)
      · replace h := h.2 hc
        refine lv_aload_n hx hb dX5_lean_244 rfl (lv_at hl 2 rfl) ?_
        refine z_get (A d0) hZ (ci := 5) (j := 12) ho_x0.1 ho_x0.2 (by decide) (by decide) k_fl_RX5_49 (v := .ref (base + 74)) (zv_fin (zf5 ho_x0 rfl) rfl) dX5_lean_245 ?_
        refine lv_iload_n hx hb dX5_lean_248 rfl (lv_at hl 3 rfl) ?_
        refine lv_iconst (v := (1 : Int32)) hx hb dX5_lean_249 (by decide) ?_
        obtain ⟨hin, h⟩ := h
        obtain ⟨M21, eM21⟩ : ∃ y : Mem, y = sI M19 74 x1.toNatClampNeg (1 : Int32) := ⟨_, rfl⟩
        refine z_iast (A d0) hZ (isA_c (a := 74) hZ.k0 (by decide) rfl) hin dX5_lean_250 (fun H locs hZ => ?_)
        rw [← eM21] at hZ
        have hm : mz M21 = mz M19 := by rw [eM21] <;> rfl
        have ho_x0 := isO_le (Nat.le_of_eq hm.symm) ho_x0
        replace h := h M21 eM21
        exact (zb_X5_lean_251 A hr hd0 hZ (lv_sub hl [] rfl) h)
  · replace h := h.2 hc
    exact z_vret A hd0 hZ hr ⟨rfl, h⟩ dX5_lean_128
set_option maxRecDepth 100000 in
set_option maxHeartbeats 4000000 in
theorem zb_X5_lean_18 {p : Program} {l : Launch} {e : Env} {R : Room} {s : State} {m : MethodId} {args : Array Value} {below : List Frame} {meth : Method} {c : Code} {G : ZG} {base z0 : Nat} {Q : Mem → Prop} (A : ∀ d, Amb p R (s.setDrawn d) m args meth c G base z0 cX5_lean yX5_lean.cls 10 2 55) (hr : meth.sig.returnType = none) {d0 : Drawn} {H : Heap} {locs : List Loc} {cells slots : Nat} {ls : Array Slot} {x0 : Nat} {x1 : Int32} {x2 : Int32} {x3 : Int32} {x4 : Int32} {x5 : Int32} {x6 : Int32} {t0 : Int32} {t1 : Int32} {t2 : Nat} {M : Mem} (ho_x0 : isO M x0 5) (ho_t2 : isA M t2 .int) (hd0 : s.drawn.sameBut d0 lw_cs) (hZ : ZH G true base s.heap M H locs) (hl : lv_has ls 10 [(0, .ref (base + x0)), (1, .int x1), (2, .int x2), (3, .int x3), (4, .int x4), (5, .int x5), (6, .int x6)]) (h : wp_X5_lean_18 x0 x1 x2 x3 x4 x5 x6 t0 t1 t2 M Q) : W p l e R (s.setDrawn d0) m args below meth c H locs cells slots (ZEnd below G true base z0 (qV Q) args s) (F0 m 18 ls [.int t0, .int t1, .ref (base + t2)]) := by
  have hx := (A d0).1
  have hb := (A d0).2.1
  unfold wp_X5_lean_18 at h
  obtain ⟨hin, h⟩ := h
  obtain ⟨M1, eM1⟩ : ∃ y : Mem, y = sI M t2 t1.toNatClampNeg t0 := ⟨_, rfl⟩
  refine z_iast (A d0) hZ ho_t2 hin dX5_lean_18 (fun H locs hZ => ?_)
  rw [← eM1] at hZ
  have hm : mz M1 = mz M := by rw [eM1] <;> rfl
  have ho_x0 := isO_le (Nat.le_of_eq hm.symm) ho_x0
  replace h := h M1 eM1
  refine lv_aload_n hx hb dX5_lean_19 rfl (lv_at hl 0 rfl) ?_
  refine z_get (A d0) hZ (ci := 5) (j := 13) ho_x0.1 ho_x0.2 (by decide) (by decide) k_fl_RX5_52 (v := .ref (base + 75)) (zv_fin (zf5 ho_x0 rfl) rfl) dX5_lean_20 ?_
  refine lv_iload_n hx hb dX5_lean_23 rfl (lv_at hl 1 rfl) ?_
  refine lv_iload hx hb dX5_lean_24 (lv_at hl 6 rfl) ?_
  obtain ⟨hin, h⟩ := h
  obtain ⟨M2, eM2⟩ : ∃ y : Mem, y = sI M1 75 x1.toNatClampNeg x6 := ⟨_, rfl⟩
  refine z_iast (A d0) hZ (isA_c (a := 75) hZ.k0 (by decide) rfl) hin dX5_lean_26 (fun H locs hZ => ?_)
  rw [← eM2] at hZ
  have hm : mz M2 = mz M1 := by rw [eM2] <;> rfl
  have ho_x0 := isO_le (Nat.le_of_eq hm.symm) ho_x0
  replace h := h M2 eM2
  refine lv_aload_n hx hb dX5_lean_27 rfl (lv_at hl 0 rfl) ?_
  refine z_get (A d0) hZ (ci := 5) (j := 14) ho_x0.1 ho_x0.2 (by decide) (by decide) k_fl_RX5_55 (v := .ref (base + 76)) (zv_fin (zf5 ho_x0 rfl) rfl) dX5_lean_28 ?_
  refine lv_iload_n hx hb dX5_lean_31 rfl (lv_at hl 1 rfl) ?_
  refine lv_iload_n hx hb dX5_lean_32 rfl (lv_at hl 3 rfl) ?_
  refine lv_iload_n hx hb dX5_lean_33 rfl (lv_at hl 2 rfl) ?_
  refine lv_isub hx hb dX5_lean_34 ?_
  obtain ⟨hin, h⟩ := h
  obtain ⟨M3, eM3⟩ : ∃ y : Mem, y = sI M2 76 x1.toNatClampNeg (x3 - x2) := ⟨_, rfl⟩
  refine z_iast (A d0) hZ (isA_c (a := 76) hZ.k0 (by decide) rfl) hin dX5_lean_35 (fun H locs hZ => ?_)
  rw [← eM3] at hZ
  have hm : mz M3 = mz M2 := by rw [eM3] <;> rfl
  have ho_x0 := isO_le (Nat.le_of_eq hm.symm) ho_x0
  replace h := h M3 eM3
  refine lv_aload_n hx hb dX5_lean_36 rfl (lv_at hl 0 rfl) ?_
  refine z_get (A d0) hZ (ci := 5) (j := 15) ho_x0.1 ho_x0.2 (by decide) (by decide) k_fl_RX5_58 (v := .ref (base + 77)) (zv_fin (zf5 ho_x0 rfl) rfl) dX5_lean_37 ?_
  refine lv_iload_n hx hb dX5_lean_40 rfl (lv_at hl 1 rfl) ?_
  refine lv_aload_n hx hb dX5_lean_41 rfl (lv_at hl 0 rfl) ?_
  refine z_get (A d0) hZ (ci := 5) (j := 2) ho_x0.1 ho_x0.2 (by decide) (by decide) k_fl_RX5_17 (v := .int (mI M3 x0 2)) rfl dX5_lean_42 ?_
  obtain ⟨hin, h⟩ := h
  obtain ⟨M4, eM4⟩ : ∃ y : Mem, y = sI M3 77 x1.toNatClampNeg (mI M3 x0 2) := ⟨_, rfl⟩
  refine z_iast (A d0) hZ (isA_c (a := 77) hZ.k0 (by decide) rfl) hin dX5_lean_45 (fun H locs hZ => ?_)
  rw [← eM4] at hZ
  have hm : mz M4 = mz M3 := by rw [eM4] <;> rfl
  have ho_x0 := isO_le (Nat.le_of_eq hm.symm) ho_x0
  replace h := h M4 eM4
  refine lv_aload_n hx hb dX5_lean_46 rfl (lv_at hl 0 rfl) ?_
  refine z_get (A d0) hZ (ci := 5) (j := 16) ho_x0.1 ho_x0.2 (by decide) (by decide) k_fl_RX5_61 (v := .ref (base + 78)) (zv_fin (zf5 ho_x0 rfl) rfl) dX5_lean_47 ?_
  refine lv_iload_n hx hb dX5_lean_50 rfl (lv_at hl 1 rfl) ?_
  refine lv_iconst (v := (0 : Int32)) hx hb dX5_lean_51 (by decide) ?_
  obtain ⟨hin, h⟩ := h
  obtain ⟨M5, eM5⟩ : ∃ y : Mem, y = sI M4 78 x1.toNatClampNeg (0 : Int32) := ⟨_, rfl⟩
  refine z_iast (A d0) hZ (isA_c (a := 78) hZ.k0 (by decide) rfl) hin dX5_lean_52 (fun H locs hZ => ?_)
  rw [← eM5] at hZ
  have hm : mz M5 = mz M4 := by rw [eM5] <;> rfl
  have ho_x0 := isO_le (Nat.le_of_eq hm.symm) ho_x0
  replace h := h M5 eM5
  refine lv_aload_n hx hb dX5_lean_53 rfl (lv_at hl 0 rfl) ?_
  refine z_get (A d0) hZ (ci := 5) (j := 17) ho_x0.1 ho_x0.2 (by decide) (by decide) k_fl_RX5_64 (v := .ref (base + 79)) (zv_fin (zf5 ho_x0 rfl) rfl) dX5_lean_54 ?_
  refine lv_iload_n hx hb dX5_lean_57 rfl (lv_at hl 1 rfl) ?_
  refine lv_lconst (v := (0 : Int64)) hx hb dX5_lean_58 (by decide) ?_
  obtain ⟨hin, h⟩ := h
  obtain ⟨M6, eM6⟩ : ∃ y : Mem, y = sL M5 79 x1.toNatClampNeg (0 : Int64) := ⟨_, rfl⟩
  refine z_last (A d0) hZ (isA_c (a := 79) hZ.k0 (by decide) rfl) hin dX5_lean_59 (fun H locs hZ => ?_)
  rw [← eM6] at hZ
  have hm : mz M6 = mz M5 := by rw [eM6] <;> rfl
  have ho_x0 := isO_le (Nat.le_of_eq hm.symm) ho_x0
  replace h := h M6 eM6
  refine lv_aload_n hx hb dX5_lean_60 rfl (lv_at hl 0 rfl) ?_
  refine z_get (A d0) hZ (ci := 5) (j := 18) ho_x0.1 ho_x0.2 (by decide) (by decide) k_fl_RX5_67 (v := .ref (base + 80)) (zv_fin (zf5 ho_x0 rfl) rfl) dX5_lean_61 ?_
  refine lv_iload_n hx hb dX5_lean_64 rfl (lv_at hl 1 rfl) ?_
  refine lv_lconst (v := (1 : Int64)) hx hb dX5_lean_65 (by decide) ?_
  obtain ⟨hin, h⟩ := h
  obtain ⟨M7, eM7⟩ : ∃ y : Mem, y = sL M6 80 x1.toNatClampNeg (1 : Int64) := ⟨_, rfl⟩
  refine z_last (A d0) hZ (isA_c (a := 80) hZ.k0 (by decide) rfl) hin dX5_lean_66 (fun H locs hZ => ?_)
  rw [← eM7] at hZ
  have hm : mz M7 = mz M6 := by rw [eM7] <;> rfl
  have ho_x0 := isO_le (Nat.le_of_eq hm.symm) ho_x0
  replace h := h M7 eM7
  refine lv_aload_n hx hb dX5_lean_67 rfl (lv_at hl 0 rfl) ?_
  refine z_get (A d0) hZ (ci := 5) (j := 19) ho_x0.1 ho_x0.2 (by decide) (by decide) k_fl_RX5_70 (v := .ref (base + 81)) (zv_fin (zf5 ho_x0 rfl) rfl) dX5_lean_68 ?_
  refine lv_iload_n hx hb dX5_lean_71 rfl (lv_at hl 1 rfl) ?_
  refine lv_lconst (v := (0 : Int64)) hx hb dX5_lean_72 (by decide) ?_
  obtain ⟨hin, h⟩ := h
  obtain ⟨M8, eM8⟩ : ∃ y : Mem, y = sL M7 81 x1.toNatClampNeg (0 : Int64) := ⟨_, rfl⟩
  refine z_last (A d0) hZ (isA_c (a := 81) hZ.k0 (by decide) rfl) hin dX5_lean_73 (fun H locs hZ => ?_)
  rw [← eM8] at hZ
  have hm : mz M8 = mz M7 := by rw [eM8] <;> rfl
  have ho_x0 := isO_le (Nat.le_of_eq hm.symm) ho_x0
  replace h := h M8 eM8
  refine lv_iload_n hx hb dX5_lean_74 rfl (lv_at hl 2 rfl) ?_
  refine lv_istore (lv' := [(7, .int x2), (0, .ref (base + x0)), (1, .int x1), (2, .int x2), (3, .int x3), (4, .int x4), (5, .int x5), (6, .int x6)]) hx hb dX5_lean_75 hl (by decide) rfl (fun ls hl2 => ?_)
  replace hl := hl2
  exact (Exists.elim h fun kk h => zb_X5_lean_77 A hr kk ho_x0 hd0 hZ (lv_sub hl [1, 2, 3, 4, 5, 6, 7, 0] rfl) h (fun ho_x0 hd0 hZ hl h => (zb_X5_lean_121 A hr ho_x0 hd0 hZ hl h)))
set_option maxRecDepth 100000 in
set_option maxHeartbeats 4000000 in
theorem c_X5_lean (l : Launch) (G : ZG) (base : Nat) (M : Mem) (x0 : Nat) (x1 : Int32) (x2 : Int32) (x3 : Int32) (x4 : Int32) (x5 : Int32) (x6 : Int32) (Q : Mem → Prop) (h : wp_X5_lean x0 x1 x2 x3 x4 x5 x6 M Q) : ZMet l yX5_lean cX5_lean 10 none 2 55 G true base M [.ref (base + x0), .int x1, .int x2, .int x3, .int x4, .int x5, .int x6] (qV Q) := by
  refine z_start (by decide) (Nat.le_of_ble_eq_true rfl) k_co_yX5_lean ?_
  intro p e s m below meth c R d0 H locs cells slots ls A hr hn hd0 hZ hl
  have hx := (A d0).1
  have hb := (A d0).2.1
  have hl : lv_has ls 10 [(0, .ref (base + x0)), (1, .int x1), (2, .int x2), (3, .int x3), (4, .int x4), (5, .int x5), (6, .int x6)] := hl
  unfold wp_X5_lean at h
  obtain ⟨ho_x0, h⟩ := h
  refine lv_aload_n hx hb dX5_lean_0 rfl (lv_at hl 0 rfl) ?_
  refine z_get (A d0) hZ (ci := 5) (j := 12) ho_x0.1 ho_x0.2 (by decide) (by decide) k_fl_RX5_49 (v := .ref (base + 74)) (zv_fin (zf5 ho_x0 rfl) rfl) dX5_lean_1 ?_
  refine lv_iload_n hx hb dX5_lean_4 rfl (lv_at hl 1 rfl) ?_
  refine lv_iload_n hx hb dX5_lean_5 rfl (lv_at hl 3 rfl) ?_
  refine lv_iload_n hx hb dX5_lean_6 rfl (lv_at hl 2 rfl) ?_
  refine lv_isub hx hb dX5_lean_7 ?_
  refine lv_iconst (v := (1 : Int32)) hx hb dX5_lean_8 (by decide) ?_
  refine lv_icmp_ne (tgt := 16) hx hb dX5_lean_9 (by decide) (fun hc => ?_) (fun hc => ?_)
  · replace h := h.1 hc
    refine lv_iload hx hb dX5_lean_16 (lv_at hl 5 rfl) ?_
    exact (zb_X5_lean_18 A hr ho_x0 (isA_c (a := 74) hZ.k0 (by decide) rfl) hd0 hZ (lv_sub hl [0, 1, 2, 3, 4, 5, 6] rfl) h)
  · replace h := h.2 hc
    refine lv_iconst (v := (0 : Int32)) hx hb dX5_lean_12 (by decide) ?_
    refine lv_goto (tgt := 18) hx hb dX5_lean_13 (by decide) ?_
    exact (zb_X5_lean_18 A hr ho_x0 (isA_c (a := 74) hZ.k0 (by decide) rfl) hd0 hZ (lv_sub hl [0, 1, 2, 3, 4, 5, 6] rfl) h)
