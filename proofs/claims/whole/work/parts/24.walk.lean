/-! cX3_follow -/
set_option maxRecDepth 100000 in
set_option maxHeartbeats 4000000 in
theorem zb_X3_follow_26 {p : Program} {l : Launch} {e : Env} {R : Room} {s : State} {m : MethodId} {args : Array Value} {below : List Frame} {meth : Method} {c : Code} {G : ZG} {base z0 : Nat} {Q : Mem → Prop} (A : ∀ d, Amb p R (s.setDrawn d) m args meth c G base z0 cX3_follow yX3_follow.cls 7 3 77) (hr : meth.sig.returnType = none) {K63 : Nat → Int64 → Option Nat → Mem → Prop} :
  ∀ (n : Nat) {d0 : Drawn} {H : Heap} {locs : List Loc} {cells slots : Nat} {ls : Array Slot} {x0 : Nat} {x1 : Int64} {x3 : Option Nat} {x4 : Option Nat} {x6 : Int32} {M : Mem} (ho_x0 : isO M x0 3) (hd0 : s.drawn.sameBut d0 lw_cs) (hZ : ZH G true base s.heap M H locs) (hl : lv_has ls 7 [(0, .ref (base + x0)), (1, .long x1), (3, vr base x3), (4, vr base x4), (6, .int x6)]) (h : wp_X3_follow_26 n x0 x1 x3 x4 x6 M Q K63) (hK63 : ∀ {d0 : Drawn} {H : Heap} {locs : List Loc} {cells slots : Nat} {ls : Array Slot} {x0 : Nat} {x1 : Int64} {x3 : Option Nat} {M : Mem} (ho_x0 : isO M x0 3), s.drawn.sameBut d0 lw_cs → ZH G true base s.heap M H locs → lv_has ls 7 [(0, .ref (base + x0)), (1, .long x1), (3, vr base x3)] → K63 x0 x1 x3 M → W p l e R (s.setDrawn d0) m args below meth c H locs cells slots (ZEnd below G true base z0 (qV Q) args s) (F0 m 63 ls [])), W p l e R (s.setDrawn d0) m args below meth c H locs cells slots (ZEnd below G true base z0 (qV Q) args s) (F0 m 26 ls []) := by
  have hx := (A default).1
  have hb := (A default).2.1
  intro n
  induction n with
  | zero => intro d0 H locs cells slots ls x0 x1 x3 x4 x6 M ho_x0 hd0 hZ hl h hK63; exact h.elim
  | succ n ih =>
    intro d0 H locs cells slots ls x0 x1 x3 x4 x6 M ho_x0 hd0 hZ hl h hK63
    unfold wp_X3_follow_26 at h
    refine lv_iload hx hb dX3_follow_26 (lv_at hl 4 rfl) ?_
    refine lv_if_lt (tgt := 63) hx hb dX3_follow_28 (by decide) (fun hc => ?_) (fun hc => ?_)
    · replace h := h.1 hc
      exact hK63 ho_x0 hd0 hZ (lv_sub hl [0, 1, 2] rfl) h
    · replace h := h.2 hc
      refine lv_iload hx hb dX3_follow_31 (lv_at hl 4 rfl) ?_
      refine z_aload (base := base) hx hb dX3_follow_33 (lv_at hl 3 rfl) ?_
      obtain ⟨a1, rfl, ho_a1, h⟩ := h
      refine z_alen (A d0) hZ ho_a1 4 rfl dX3_follow_35 ?_
      refine lv_icmp_ge (tgt := 63) hx hb dX3_follow_36 (by decide) (fun hc => ?_) (fun hc => ?_)
      · replace h := h.1 hc
        exact hK63 ho_x0 hd0 hZ (lv_sub hl [0, 1, 2] rfl) h
      · replace h := h.2 hc
        refine lv_aload_n hx hb dX3_follow_39 rfl (lv_at hl 0 rfl) ?_
        refine lv_aload_n hx hb dX3_follow_40 rfl (lv_at hl 0 rfl) ?_
        refine lv_aload hx hb dX3_follow_41 (lv_at hl 3 rfl) ?_
        refine lv_iload hx hb dX3_follow_43 (lv_at hl 4 rfl) ?_
        obtain ⟨hin, h⟩ := h
        refine z_aaldT (A d0) hZ ho_a1 hin dX3_follow_45 ?_
        obtain ⟨r2, er2⟩ : ∃ y : Option Nat, y = zref true M a1 x6.toNatClampNeg := ⟨_, rfl⟩
        rw [← er2]
        replace h := h r2 er2
        refine lv_aload_n hx hb dX3_follow_46 rfl (lv_at hl 0 rfl) ?_
        refine z_get (A d0) hZ (ci := 3) (j := 4) ho_x0.1 ho_x0.2 (by decide) (by decide) k_fl_RX3_25 (v := .int (mI M x0 4)) rfl dX3_follow_47 ?_
        refine lv_lload_n hx hb dX3_follow_50 rfl (lv_at hl 1 rfl) ?_
        refine z_callV A hd0 hZ (ci := 3) (nA := 3) (As := [vr base r2, .int (mI M x0 4), .long x1]) (by decide) ho_x0 (c_X3_descend l G base M x0 r2 (mI M x0 4) x1 _ h) k_ml_RX3_34 k_im_yX3_descend k_se_yX3_descend k_in_RX3 k_co_yX3_descend (by decide +kernel) ⟨by decide, by decide⟩ rfl rfl (Nat.le_of_ble_eq_true rfl) hl dX3_follow_51 (fun v M3 H locs d0 cells slots hq hd0 hZ hm => ?_)
        clear h
        obtain ⟨i4, rfl, h⟩ := hq
        have ho_x0 := isO_le hm ho_x0
        have ho_a1 := isA_le hm ho_a1
        obtain ⟨M5, eM5⟩ : ∃ y : Mem, y = sI M3 x0 4 i4 := ⟨_, rfl⟩
        refine z_put (A d0) hZ (ci := 3) (j := 4) (M' := M5) ho_x0.1 ho_x0.2 (by decide) (by decide) k_fl_RX3_25 rfl (by rw [eM5]; exact zUpd_I) rfl rfl dX3_follow_54 (fun H locs hZ => ?_)
        have hm : mz M5 = mz M3 := by rw [eM5] <;> rfl
        have ho_x0 := isO_le (Nat.le_of_eq hm.symm) ho_x0
        have ho_a1 := isA_le (Nat.le_of_eq hm.symm) ho_a1
        replace h := h M5 eM5
        obtain ⟨i6, ei6⟩ : ∃ y : Int32, y = x6 + (-1 : Int32) := ⟨_, rfl⟩
        replace h := h i6 ei6
        refine lv_iinc (v := i6) (lv' := [(6, .int i6), (0, .ref (base + x0)), (1, .long x1), (3, vr base x3), (4, .ref (base + a1))]) hx hb dX3_follow_57 hl (k := 4) rfl (by rw [ei6]; rfl) (by decide) rfl (fun ls hl2 => ?_)
        replace hl := hl2
        refine lv_goto (tgt := 26) hx hb dX3_follow_60 (by decide) ?_
        exact ih ho_x0 hd0 hZ (lv_sub hl [1, 2, 3, 4, 0] rfl) h hK63
set_option maxRecDepth 100000 in
set_option maxHeartbeats 4000000 in
theorem zb_X3_follow_113 {p : Program} {l : Launch} {e : Env} {R : Room} {s : State} {m : MethodId} {args : Array Value} {below : List Frame} {meth : Method} {c : Code} {G : ZG} {base z0 : Nat} {Q : Mem → Prop} (A : ∀ d, Amb p R (s.setDrawn d) m args meth c G base z0 cX3_follow yX3_follow.cls 7 3 77) (hr : meth.sig.returnType = none) {d0 : Drawn} {H : Heap} {locs : List Loc} {cells slots : Nat} {ls : Array Slot} {x0 : Nat} {M : Mem} (ho_x0 : isO M x0 3) (hd0 : s.drawn.sameBut d0 lw_cs) (hZ : ZH G true base s.heap M H locs) (hl : lv_has ls 7 [(0, .ref (base + x0))]) (h : wp_X3_follow_113 x0 M Q) : W p l e R (s.setDrawn d0) m args below meth c H locs cells slots (ZEnd below G true base z0 (qV Q) args s) (F0 m 113 ls []) := by
  have hx := (A d0).1
  have hb := (A d0).2.1
  unfold wp_X3_follow_113 at h
  refine lv_aload_n hx hb dX3_follow_113 rfl (lv_at hl 0 rfl) ?_
  refine lv_aload_n hx hb dX3_follow_114 rfl (lv_at hl 0 rfl) ?_
  refine z_get (A d0) hZ (ci := 3) (j := 3) ho_x0.1 ho_x0.2 (by decide) (by decide) k_fl_RX3_22 (v := .int (mI M x0 3)) rfl dX3_follow_115 ?_
  refine z_callV A hd0 hZ (ci := 3) (nA := 1) (As := [.int (mI M x0 3)]) (by decide) ho_x0 (c_X3_tell l G base M x0 (mI M x0 3) _ h) k_ml_RX3_48 k_im_yX3_tell k_se_yX3_tell k_in_RX3 k_co_yX3_tell (by decide +kernel) ⟨by decide, by decide⟩ rfl rfl (Nat.le_of_ble_eq_true rfl) hl dX3_follow_118 (fun v M16 H locs d0 cells slots hq hd0 hZ hm => ?_)
  clear h
  obtain ⟨rfl, h⟩ := hq
  have ho_x0 := isO_le hm ho_x0
  exact z_vret A hd0 hZ hr ⟨rfl, h⟩ dX3_follow_121
set_option maxRecDepth 100000 in
set_option maxHeartbeats 4000000 in
theorem zb_X3_follow_63 {p : Program} {l : Launch} {e : Env} {R : Room} {s : State} {m : MethodId} {args : Array Value} {below : List Frame} {meth : Method} {c : Code} {G : ZG} {base z0 : Nat} {Q : Mem → Prop} (A : ∀ d, Amb p R (s.setDrawn d) m args meth c G base z0 cX3_follow yX3_follow.cls 7 3 77) (hr : meth.sig.returnType = none) {d0 : Drawn} {H : Heap} {locs : List Loc} {cells slots : Nat} {ls : Array Slot} {x0 : Nat} {x1 : Int64} {x3 : Option Nat} {M : Mem} (ho_x0 : isO M x0 3) (hd0 : s.drawn.sameBut d0 lw_cs) (hZ : ZH G true base s.heap M H locs) (hl : lv_has ls 7 [(0, .ref (base + x0)), (1, .long x1), (3, vr base x3)]) (h : wp_X3_follow_63 x0 x1 x3 M Q) : W p l e R (s.setDrawn d0) m args below meth c H locs cells slots (ZEnd below G true base z0 (qV Q) args s) (F0 m 63 ls []) := by
  have hx := (A d0).1
  have hb := (A d0).2.1
  unfold wp_X3_follow_63 at h
  refine lv_aload_n hx hb dX3_follow_63 rfl (lv_at hl 0 rfl) ?_
  refine lv_aload_n hx hb dX3_follow_64 rfl (lv_at hl 0 rfl) ?_
  refine z_aload_n (base := base) hx hb dX3_follow_65 rfl (lv_at hl 2 rfl) ?_
  refine lv_aload_n hx hb dX3_follow_66 rfl (lv_at hl 0 rfl) ?_
  refine z_get (A d0) hZ (ci := 3) (j := 4) ho_x0.1 ho_x0.2 (by decide) (by decide) k_fl_RX3_25 (v := .int (mI M x0 4)) rfl dX3_follow_67 ?_
  refine lv_lload_n hx hb dX3_follow_70 rfl (lv_at hl 1 rfl) ?_
  refine z_callV A hd0 hZ (ci := 3) (nA := 3) (As := [vr base x3, .int (mI M x0 4), .long x1]) (by decide) ho_x0 (c_X3_descend l G base M x0 x3 (mI M x0 4) x1 _ h) k_ml_RX3_34 k_im_yX3_descend k_se_yX3_descend k_in_RX3 k_co_yX3_descend (by decide +kernel) ⟨by decide, by decide⟩ rfl rfl (Nat.le_of_ble_eq_true rfl) hl dX3_follow_71 (fun v M7 H locs d0 cells slots hq hd0 hZ hm => ?_)
  clear h
  obtain ⟨i8, rfl, h⟩ := hq
  have ho_x0 := isO_le hm ho_x0
  obtain ⟨M9, eM9⟩ : ∃ y : Mem, y = sI M7 x0 5 i8 := ⟨_, rfl⟩
  refine z_put (A d0) hZ (ci := 3) (j := 5) (M' := M9) ho_x0.1 ho_x0.2 (by decide) (by decide) k_fl_RX3_28 rfl (by rw [eM9]; exact zUpd_I) rfl rfl dX3_follow_74 (fun H locs hZ => ?_)
  have hm : mz M9 = mz M7 := by rw [eM9] <;> rfl
  have ho_x0 := isO_le (Nat.le_of_eq hm.symm) ho_x0
  replace h := h M9 eM9
  refine lv_aload_n hx hb dX3_follow_77 rfl (lv_at hl 0 rfl) ?_
  refine lv_dup hx hb dX3_follow_78 rfl ?_
  refine z_get (A d0) hZ (ci := 3) (j := 2) ho_x0.1 ho_x0.2 (by decide) (by decide) k_fl_RX3_19 (v := .int (mI M9 x0 2)) rfl dX3_follow_79 ?_
  refine lv_iconst (v := (1 : Int32)) hx hb dX3_follow_82 (by decide) ?_
  refine lv_iadd hx hb dX3_follow_83 ?_
  obtain ⟨M10, eM10⟩ : ∃ y : Mem, y = sI M9 x0 2 ((mI M9 x0 2) + (1 : Int32)) := ⟨_, rfl⟩
  refine z_put (A d0) hZ (ci := 3) (j := 2) (M' := M10) ho_x0.1 ho_x0.2 (by decide) (by decide) k_fl_RX3_19 rfl (by rw [eM10]; exact zUpd_I) rfl rfl dX3_follow_84 (fun H locs hZ => ?_)
  have hm : mz M10 = mz M9 := by rw [eM10] <;> rfl
  have ho_x0 := isO_le (Nat.le_of_eq hm.symm) ho_x0
  replace h := h M10 eM10
  refine z_aload_n (base := base) hx hb dX3_follow_87 rfl (lv_at hl 2 rfl) ?_
  refine lv_aload_n hx hb dX3_follow_88 rfl (lv_at hl 0 rfl) ?_
  refine z_get (A d0) hZ (ci := 3) (j := 5) ho_x0.1 ho_x0.2 (by decide) (by decide) k_fl_RX3_28 (v := .int (mI M10 x0 5)) rfl dX3_follow_89 ?_
  refine lv_lload_n hx hb dX3_follow_92 rfl (lv_at hl 1 rfl) ?_
  obtain ⟨a11, rfl, ho_a11, h⟩ := h
  refine z_callV A hd0 hZ (ci := 2) (nA := 2) (As := [.int (mI M10 x0 5), .long x1]) (by decide) ho_a11 (c_X2_holds l G base M10 a11 (mI M10 x0 5) x1 _ h) k_ml_RX3_38 k_im_yX2_holds k_se_yX2_holds k_in_RX2 k_co_yX2_holds (by decide +kernel) ⟨by decide, by decide⟩ rfl rfl (Nat.le_of_ble_eq_true rfl) hl dX3_follow_93 (fun v M12 H locs d0 cells slots hq hd0 hZ hm => ?_)
  clear h
  obtain ⟨i13, rfl, h⟩ := hq
  have ho_x0 := isO_le hm ho_x0
  have ho_a11 := isO_le hm ho_a11
  refine lv_if_eq (tgt := 107) hx hb dX3_follow_96 (by decide) (fun hc => ?_) (fun hc => ?_)
  · replace h := h.1 hc
    refine lv_aload_n hx hb dX3_follow_107 rfl (lv_at hl 0 rfl) ?_
    refine lv_aload_n hx hb dX3_follow_108 rfl (lv_at hl 2 rfl) ?_
    refine lv_lload_n hx hb dX3_follow_109 rfl (lv_at hl 1 rfl) ?_
    refine z_callV A hd0 hZ (ci := 3) (nA := 2) (As := [vr base (some a11), .long x1]) (by decide) ho_x0 (c_X3_seekLate l G base M12 x0 (some a11) x1 _ h) k_ml_RX3_44 k_im_yX3_seekLate k_se_yX3_seekLate k_in_RX3 k_co_yX3_seekLate (by decide +kernel) ⟨by decide, by decide⟩ rfl rfl (Nat.le_of_ble_eq_true rfl) hl dX3_follow_110 (fun v M14 H locs d0 cells slots hq hd0 hZ hm => ?_)
    clear h
    obtain ⟨rfl, h⟩ := hq
    have ho_x0 := isO_le hm ho_x0
    have ho_a11 := isO_le hm ho_a11
    exact (zb_X3_follow_113 A hr ho_x0 hd0 hZ (lv_sub hl [0] rfl) h)
  · replace h := h.2 hc
    refine lv_aload_n hx hb dX3_follow_99 rfl (lv_at hl 0 rfl) ?_
    refine lv_iconst (v := (1 : Int32)) hx hb dX3_follow_100 (by decide) ?_
    obtain ⟨M15, eM15⟩ : ∃ y : Mem, y = sI M12 x0 3 (1 : Int32) := ⟨_, rfl⟩
    refine z_put (A d0) hZ (ci := 3) (j := 3) (M' := M15) ho_x0.1 ho_x0.2 (by decide) (by decide) k_fl_RX3_22 rfl (by rw [eM15]; exact zUpd_I) rfl rfl dX3_follow_101 (fun H locs hZ => ?_)
    have hm : mz M15 = mz M12 := by rw [eM15] <;> rfl
    have ho_x0 := isO_le (Nat.le_of_eq hm.symm) ho_x0
    have ho_a11 := isO_le (Nat.le_of_eq hm.symm) ho_a11
    replace h := h M15 eM15
    refine lv_goto (tgt := 113) hx hb dX3_follow_104 (by decide) ?_
    exact (zb_X3_follow_113 A hr ho_x0 hd0 hZ (lv_sub hl [0] rfl) h)
set_option maxRecDepth 100000 in
set_option maxHeartbeats 4000000 in
theorem c_X3_follow (l : Launch) (G : ZG) (base : Nat) (M : Mem) (x0 : Nat) (x1 : Int64) (x3 : Option Nat) (x4 : Option Nat) (x5 : Int32) (Q : Mem → Prop) (h : wp_X3_follow x0 x1 x3 x4 x5 M Q) : ZMet l yX3_follow cX3_follow 7 none 3 77 G true base M [.ref (base + x0), .long x1, vr base x3, vr base x4, .int x5] (qV Q) := by
  refine z_start (by decide) (by simp [lg_sl, cat_vr, cat_r, cat_i, cat_l, cat_d]) k_co_yX3_follow ?_
  intro p e s m below meth c R d0 H locs cells slots ls A hr hn hd0 hZ hl
  have hx := (A d0).1
  have hb := (A d0).2.1
  have hl : lv_has ls 7 [(0, .ref (base + x0)), (1, .long x1), (3, vr base x3), (4, vr base x4), (5, .int x5)] := by simpa [lv_args, cat_vr, cat_r, cat_i, cat_l, cat_d] using hl
  unfold wp_X3_follow at h
  obtain ⟨ho_x0, h⟩ := h
  refine lv_aload_n hx hb dX3_follow_0 rfl (lv_at hl 0 rfl) ?_
  refine lv_iconst (v := (0 : Int32)) hx hb dX3_follow_1 (by decide) ?_
  obtain ⟨M17, eM17⟩ : ∃ y : Mem, y = sI M x0 1 (0 : Int32) := ⟨_, rfl⟩
  refine z_put (A d0) hZ (ci := 3) (j := 1) (M' := M17) ho_x0.1 ho_x0.2 (by decide) (by decide) k_fl_RX3_15 rfl (by rw [eM17]; exact zUpd_I) rfl rfl dX3_follow_2 (fun H locs hZ => ?_)
  have hm : mz M17 = mz M := by rw [eM17] <;> rfl
  have ho_x0 := isO_le (Nat.le_of_eq hm.symm) ho_x0
  replace h := h M17 eM17
  refine lv_aload_n hx hb dX3_follow_5 rfl (lv_at hl 0 rfl) ?_
  refine lv_iconst (v := (0 : Int32)) hx hb dX3_follow_6 (by decide) ?_
  obtain ⟨M18, eM18⟩ : ∃ y : Mem, y = sI M17 x0 2 (0 : Int32) := ⟨_, rfl⟩
  refine z_put (A d0) hZ (ci := 3) (j := 2) (M' := M18) ho_x0.1 ho_x0.2 (by decide) (by decide) k_fl_RX3_19 rfl (by rw [eM18]; exact zUpd_I) rfl rfl dX3_follow_7 (fun H locs hZ => ?_)
  have hm : mz M18 = mz M17 := by rw [eM18] <;> rfl
  have ho_x0 := isO_le (Nat.le_of_eq hm.symm) ho_x0
  replace h := h M18 eM18
  refine lv_aload_n hx hb dX3_follow_10 rfl (lv_at hl 0 rfl) ?_
  refine lv_iconst (v := (0 : Int32)) hx hb dX3_follow_11 (by decide) ?_
  obtain ⟨M19, eM19⟩ : ∃ y : Mem, y = sI M18 x0 3 (0 : Int32) := ⟨_, rfl⟩
  refine z_put (A d0) hZ (ci := 3) (j := 3) (M' := M19) ho_x0.1 ho_x0.2 (by decide) (by decide) k_fl_RX3_22 rfl (by rw [eM19]; exact zUpd_I) rfl rfl dX3_follow_12 (fun H locs hZ => ?_)
  have hm : mz M19 = mz M18 := by rw [eM19] <;> rfl
  have ho_x0 := isO_le (Nat.le_of_eq hm.symm) ho_x0
  replace h := h M19 eM19
  refine lv_aload_n hx hb dX3_follow_15 rfl (lv_at hl 0 rfl) ?_
  refine lv_iconst (v := (0 : Int32)) hx hb dX3_follow_16 (by decide) ?_
  obtain ⟨M20, eM20⟩ : ∃ y : Mem, y = sI M19 x0 4 (0 : Int32) := ⟨_, rfl⟩
  refine z_put (A d0) hZ (ci := 3) (j := 4) (M' := M20) ho_x0.1 ho_x0.2 (by decide) (by decide) k_fl_RX3_25 rfl (by rw [eM20]; exact zUpd_I) rfl rfl dX3_follow_17 (fun H locs hZ => ?_)
  have hm : mz M20 = mz M19 := by rw [eM20] <;> rfl
  have ho_x0 := isO_le (Nat.le_of_eq hm.symm) ho_x0
  replace h := h M20 eM20
  refine lv_iload hx hb dX3_follow_20 (lv_at hl 4 rfl) ?_
  refine lv_iconst (v := (1 : Int32)) hx hb dX3_follow_22 (by decide) ?_
  refine lv_isub hx hb dX3_follow_23 ?_
  obtain ⟨i21, ei21⟩ : ∃ y : Int32, y = x5 - (1 : Int32) := ⟨_, rfl⟩
  rw [← ei21]
  replace h := h i21 ei21
  refine lv_istore (lv' := [(6, .int i21), (0, .ref (base + x0)), (1, .long x1), (3, vr base x3), (4, vr base x4), (5, .int x5)]) hx hb dX3_follow_24 hl (by decide) rfl (fun ls hl2 => ?_)
  replace hl := hl2
  exact (Exists.elim h fun kk h => zb_X3_follow_26 A hr kk ho_x0 hd0 hZ (lv_sub hl [1, 2, 3, 4, 0] rfl) h (fun ho_x0 hd0 hZ hl h => (zb_X3_follow_63 A hr ho_x0 hd0 hZ hl h)))
/-! cX3_tellsTheSame -/
set_option maxRecDepth 100000 in
set_option maxHeartbeats 4000000 in
theorem zb_X3_tellsTheSame_15 {p : Program} {l : Launch} {e : Env} {R : Room} {s : State} {m : MethodId} {args : Array Value} {below : List Frame} {meth : Method} {c : Code} {G : ZG} {base z0 : Nat} {Q : Int32 → Mem → Prop} (A : ∀ d, Amb p R (s.setDrawn d) m args meth c G base z0 cX3_tellsTheSame yX3_tellsTheSame.cls 3 0 0) (hr : meth.sig.returnType = (some .boolean)) {K38 : Mem → Prop} {K46 : Mem → Prop} :
  ∀ (n : Nat) {d0 : Drawn} {H : Heap} {locs : List Loc} {cells slots : Nat} {ls : Array Slot} {x0 : Nat} {x1 : Nat} {x2 : Int32} {M : Mem} (ho_x0 : isO M x0 3) (ho_x1 : isO M x1 3) (hd0 : s.drawn.sameBut d0 lw_cs) (hZ : ZH G true base s.heap M H locs) (hl : lv_has ls 3 [(0, .ref (base + x0)), (1, .ref (base + x1)), (2, .int x2)]) (h : wp_X3_tellsTheSame_15 n x0 x1 x2 M Q K38 K46) (hK38 : ∀ {d0 : Drawn} {H : Heap} {locs : List Loc} {cells slots : Nat} {ls : Array Slot} {M : Mem}, s.drawn.sameBut d0 lw_cs → ZH G true base s.heap M H locs → lv_has ls 3 [] → K38 M → W p l e R (s.setDrawn d0) m args below meth c H locs cells slots (ZEnd below G true base z0 (qI Q) args s) (F0 m 38 ls [])) (hK46 : ∀ {d0 : Drawn} {H : Heap} {locs : List Loc} {cells slots : Nat} {ls : Array Slot} {M : Mem}, s.drawn.sameBut d0 lw_cs → ZH G true base s.heap M H locs → lv_has ls 3 [] → K46 M → W p l e R (s.setDrawn d0) m args below meth c H locs cells slots (ZEnd below G true base z0 (qI Q) args s) (F0 m 46 ls [])), W p l e R (s.setDrawn d0) m args below meth c H locs cells slots (ZEnd below G true base z0 (qI Q) args s) (F0 m 15 ls []) := by
  have hx := (A default).1
  have hb := (A default).2.1
  intro n
  induction n with
  | zero => intro d0 H locs cells slots ls x0 x1 x2 M ho_x0 ho_x1 hd0 hZ hl h hK38 hK46; exact h.elim
  | succ n ih =>
    intro d0 H locs cells slots ls x0 x1 x2 M ho_x0 ho_x1 hd0 hZ hl h hK38 hK46
    unfold wp_X3_tellsTheSame_15 at h
    refine lv_iload_n hx hb dX3_tellsTheSame_15 rfl (lv_at hl 2 rfl) ?_
    refine lv_aload_n hx hb dX3_tellsTheSame_16 rfl (lv_at hl 0 rfl) ?_
    refine z_get (A d0) hZ (ci := 3) (j := 1) ho_x0.1 ho_x0.2 (by decide) (by decide) k_fl_RX3_15 (v := .int (mI M x0 1)) rfl dX3_tellsTheSame_17 ?_
    refine lv_icmp_ge (tgt := 46) hx hb dX3_tellsTheSame_20 (by decide) (fun hc => ?_) (fun hc => ?_)
    · replace h := h.1 hc
      exact hK46 hd0 hZ (lv_sub hl [] rfl) h
    · replace h := h.2 hc
      refine lv_aload_n hx hb dX3_tellsTheSame_23 rfl (lv_at hl 0 rfl) ?_
      refine z_get (A d0) hZ (ci := 3) (j := 0) ho_x0.1 ho_x0.2 (by decide) (by decide) k_fl_RX3_9 (v := .ref (base + (x0 + 1))) (zv_fin (zf3_0 ho_x0) rfl) dX3_tellsTheSame_24 ?_
      refine lv_iload_n hx hb dX3_tellsTheSame_27 rfl (lv_at hl 2 rfl) ?_
      obtain ⟨hin, h⟩ := h
      refine z_iald (A d0) hZ (isA_W1 hZ.k0 ho_x0) hin dX3_tellsTheSame_28 ?_
      refine lv_aload_n hx hb dX3_tellsTheSame_29 rfl (lv_at hl 1 rfl) ?_
      refine z_get (A d0) hZ (ci := 3) (j := 0) ho_x1.1 ho_x1.2 (by decide) (by decide) k_fl_RX3_9 (v := .ref (base + (x1 + 1))) (zv_fin (zf3_0 ho_x1) rfl) dX3_tellsTheSame_30 ?_
      refine lv_iload_n hx hb dX3_tellsTheSame_33 rfl (lv_at hl 2 rfl) ?_
      obtain ⟨hin, h⟩ := h
      refine z_iald (A d0) hZ (isA_W1 hZ.k0 ho_x1) hin dX3_tellsTheSame_34 ?_
      refine lv_icmp_eq (tgt := 40) hx hb dX3_tellsTheSame_35 (by decide) (fun hc => ?_) (fun hc => ?_)
      · replace h := h.1 hc
        obtain ⟨i1, ei1⟩ : ∃ y : Int32, y = x2 + (1 : Int32) := ⟨_, rfl⟩
        replace h := h i1 ei1
        refine lv_iinc (v := i1) (lv' := [(2, .int i1), (0, .ref (base + x0)), (1, .ref (base + x1))]) hx hb dX3_tellsTheSame_40 hl (k := 2) rfl (by rw [ei1]; rfl) (by decide) rfl (fun ls hl2 => ?_)
        replace hl := hl2
        refine lv_goto (tgt := 15) hx hb dX3_tellsTheSame_43 (by decide) ?_
        exact ih ho_x0 ho_x1 hd0 hZ (lv_sub hl [1, 2, 0] rfl) h hK38 hK46
      · replace h := h.2 hc
        exact hK38 hd0 hZ (lv_sub hl [] rfl) h
set_option maxRecDepth 100000 in
set_option maxHeartbeats 4000000 in
theorem zb_X3_tellsTheSame_38 {p : Program} {l : Launch} {e : Env} {R : Room} {s : State} {m : MethodId} {args : Array Value} {below : List Frame} {meth : Method} {c : Code} {G : ZG} {base z0 : Nat} {Q : Int32 → Mem → Prop} (A : ∀ d, Amb p R (s.setDrawn d) m args meth c G base z0 cX3_tellsTheSame yX3_tellsTheSame.cls 3 0 0) (hr : meth.sig.returnType = (some .boolean)) {d0 : Drawn} {H : Heap} {locs : List Loc} {cells slots : Nat} {ls : Array Slot}  {M : Mem} (hd0 : s.drawn.sameBut d0 lw_cs) (hZ : ZH G true base s.heap M H locs) (hl : lv_has ls 3 []) (h : wp_X3_tellsTheSame_38 M Q) : W p l e R (s.setDrawn d0) m args below meth c H locs cells slots (ZEnd below G true base z0 (qI Q) args s) (F0 m 38 ls []) := by
  have hx := (A d0).1
  have hb := (A d0).2.1
  unfold wp_X3_tellsTheSame_38 at h
  refine lv_iconst (v := (0 : Int32)) hx hb dX3_tellsTheSame_38 (by decide) ?_
  exact z_zret A hd0 hZ hr (Or.inl rfl) ⟨_, rfl, h⟩ dX3_tellsTheSame_39
set_option maxRecDepth 100000 in
set_option maxHeartbeats 4000000 in
theorem zb_X3_tellsTheSame_46 {p : Program} {l : Launch} {e : Env} {R : Room} {s : State} {m : MethodId} {args : Array Value} {below : List Frame} {meth : Method} {c : Code} {G : ZG} {base z0 : Nat} {Q : Int32 → Mem → Prop} (A : ∀ d, Amb p R (s.setDrawn d) m args meth c G base z0 cX3_tellsTheSame yX3_tellsTheSame.cls 3 0 0) (hr : meth.sig.returnType = (some .boolean)) {d0 : Drawn} {H : Heap} {locs : List Loc} {cells slots : Nat} {ls : Array Slot}  {M : Mem} (hd0 : s.drawn.sameBut d0 lw_cs) (hZ : ZH G true base s.heap M H locs) (hl : lv_has ls 3 []) (h : wp_X3_tellsTheSame_46 M Q) : W p l e R (s.setDrawn d0) m args below meth c H locs cells slots (ZEnd below G true base z0 (qI Q) args s) (F0 m 46 ls []) := by
  have hx := (A d0).1
  have hb := (A d0).2.1
  unfold wp_X3_tellsTheSame_46 at h
  refine lv_iconst (v := (1 : Int32)) hx hb dX3_tellsTheSame_46 (by decide) ?_
  exact z_zret A hd0 hZ hr (Or.inr rfl) ⟨_, rfl, h⟩ dX3_tellsTheSame_47
set_option maxRecDepth 100000 in
set_option maxHeartbeats 4000000 in
theorem c_X3_tellsTheSame (l : Launch) (G : ZG) (base : Nat) (M : Mem) (x0 : Nat) (x1 : Option Nat) (Q : Int32 → Mem → Prop) (h : wp_X3_tellsTheSame x0 x1 M Q) : ZMet l yX3_tellsTheSame cX3_tellsTheSame 3 (some .boolean) 0 0 G true base M [.ref (base + x0), vr base x1] (qI Q) := by
  refine z_start (by decide) (by simp [lg_sl, cat_vr, cat_r, cat_i, cat_l, cat_d]) k_co_yX3_tellsTheSame ?_
  intro p e s m below meth c R d0 H locs cells slots ls A hr hn hd0 hZ hl
  have hx := (A d0).1
  have hb := (A d0).2.1
  have hl : lv_has ls 3 [(0, .ref (base + x0)), (1, vr base x1)] := by simpa [lv_args, cat_vr, cat_r, cat_i, cat_l, cat_d] using hl
  unfold wp_X3_tellsTheSame at h
  obtain ⟨ho_x0, h⟩ := h
  refine lv_aload_n hx hb dX3_tellsTheSame_0 rfl (lv_at hl 0 rfl) ?_
  refine z_get (A d0) hZ (ci := 3) (j := 1) ho_x0.1 ho_x0.2 (by decide) (by decide) k_fl_RX3_15 (v := .int (mI M x0 1)) rfl dX3_tellsTheSame_1 ?_
  refine z_aload_n (base := base) hx hb dX3_tellsTheSame_4 rfl (lv_at hl 1 rfl) ?_
  obtain ⟨a2, rfl, ho_a2, h⟩ := h
  refine z_get (A d0) hZ (ci := 3) (j := 1) ho_a2.1 ho_a2.2 (by decide) (by decide) k_fl_RX3_15 (v := .int (mI M a2 1)) rfl dX3_tellsTheSame_5 ?_
  refine lv_icmp_eq (tgt := 13) hx hb dX3_tellsTheSame_8 (by decide) (fun hc => ?_) (fun hc => ?_)
  · replace h := h.1 hc
    refine lv_iconst (v := (0 : Int32)) hx hb dX3_tellsTheSame_13 (by decide) ?_
    refine lv_istore_n (lv' := [(2, .int (0 : Int32)), (0, .ref (base + x0)), (1, .ref (base + a2))]) hx hb dX3_tellsTheSame_14 rfl hl (by decide) rfl (fun ls hl2 => ?_)
    replace hl := hl2
    exact (Exists.elim h fun kk h => zb_X3_tellsTheSame_15 A hr kk ho_x0 ho_a2 hd0 hZ (lv_sub hl [1, 2, 0] rfl) h (fun hd0 hZ hl h => (zb_X3_tellsTheSame_38 A hr hd0 hZ hl h)) (fun hd0 hZ hl h => (zb_X3_tellsTheSame_46 A hr hd0 hZ hl h)))
  · replace h := h.2 hc
    refine lv_iconst (v := (0 : Int32)) hx hb dX3_tellsTheSame_11 (by decide) ?_
    exact z_zret A hd0 hZ hr (Or.inl rfl) ⟨_, rfl, h⟩ dX3_tellsTheSame_12
/-! cX4_init -/
set_option maxRecDepth 100000 in
set_option maxHeartbeats 4000000 in
theorem zb_X4_init_135 {p : Program} {l : Launch} {e : Env} {R : Room} {s : State} {m : MethodId} {args : Array Value} {below : List Frame} {meth : Method} {c : Code} {G : ZG} {base z0 : Nat} {Q : Mem → Prop} (A : ∀ d, Amb p R (s.setDrawn d) m args meth c G base z0 cX4_init yX4_init.cls 3 2 34) (hr : meth.sig.returnType = none) (hn : meth.name = "<init>") {K168 : Mem → Prop} :
  ∀ (n : Nat) {d0 : Drawn} {H : Heap} {locs : List Loc} {cells slots : Nat} {ls : Array Slot} {x0 : Nat} {x1 : Int32} {x2 : Int32} {M : Mem} (ho_x0 : isO M x0 4) (hd0 : s.drawn.sameBut d0 lw_cs) (hZ : ZH G false base s.heap M H locs) (hl : lv_has ls 3 [(0, .ref (base + x0)), (1, .int x1), (2, .int x2)]) (h : wp_X4_init_135 n x0 x1 x2 M Q K168) (hK168 : ∀ {d0 : Drawn} {H : Heap} {locs : List Loc} {cells slots : Nat} {ls : Array Slot} {M : Mem}, s.drawn.sameBut d0 lw_cs → ZH G false base s.heap M H locs → lv_has ls 3 [] → K168 M → W p l e R (s.setDrawn d0) m args below meth c H locs cells slots (ZEnd below G false base z0 (qV Q) args s) (F0 m 168 ls [])), W p l e R (s.setDrawn d0) m args below meth c H locs cells slots (ZEnd below G false base z0 (qV Q) args s) (F0 m 135 ls []) := by
  have hx := (A default).1
  have hb := (A default).2.1
  intro n
  induction n with
  | zero => intro d0 H locs cells slots ls x0 x1 x2 M ho_x0 hd0 hZ hl h hK168; exact h.elim
  | succ n ih =>
    intro d0 H locs cells slots ls x0 x1 x2 M ho_x0 hd0 hZ hl h hK168
    unfold wp_X4_init_135 at h
    refine lv_iload_n hx hb dX4_init_135 rfl (lv_at hl 2 rfl) ?_
    refine lv_bipush (v := (10 : Int32)) hx hb dX4_init_136 (by decide) ?_
    refine lv_icmp_ge (tgt := 168) hx hb dX4_init_138 (by decide) (fun hc => ?_) (fun hc => ?_)
    · replace h := h.1 hc
      exact hK168 hd0 hZ (lv_sub hl [] rfl) h
    · replace h := h.2 hc
      refine lv_aload_n hx hb dX4_init_141 rfl (lv_at hl 0 rfl) ?_
      refine z_get (A d0) hZ (ci := 4) (j := 5) ho_x0.1 ho_x0.2 (by decide) (by decide) k_fl_RX4_34 (v := vr base (mR M x0 5)) rfl dX4_init_142 ?_
      obtain ⟨r1, er1⟩ : ∃ y : Option Nat, y = mR M x0 5 := ⟨_, rfl⟩
      rw [← er1]
      replace h := h r1 er1
      refine lv_iload_n hx hb dX4_init_145 rfl (lv_at hl 2 rfl) ?_
      obtain ⟨hlt, h⟩ := h
      obtain ⟨hs, h⟩ := h
      obtain ⟨M3, eM3⟩ : ∃ y : Mem, y = nw M := ⟨_, rfl⟩
      obtain ⟨a2, ea2⟩ : ∃ y : Nat, y = mz M := ⟨_, rfl⟩
      have ho_a2 : isO M3 a2 2 := ⟨by rw [ea2]; exact hs, by rw [eM3, ea2]; exact Nat.lt_succ_self _⟩
      refine z_new (A d0) hZ ea2 (ci := 2) (by decide) hs hlt k_cl_RX4_22 k_is_RX2 k_in_RX2 (fun _ q => by cases q) (nofl _ (by decide)) dX4_init_146 (fun H cells slots hZ => ?_)
      rw [← eM3] at hZ
      have hm : mz M ≤ mz M3 := by rw [eM3]; exact Nat.le_succ _
      have ho_x0 := isO_le hm ho_x0
      replace h := h a2 M3 ea2 eM3
      refine lv_dup hx hb dX4_init_149 rfl ?_
      refine lv_iload_n hx hb dX4_init_150 rfl (lv_at hl 1 rfl) ?_
      refine lv_iconst (v := (0 : Int32)) hx hb dX4_init_151 (by decide) ?_
      refine z_callI A hd0 hZ (nA := 2) (As := [.int x1, .int (0 : Int32)]) (c_X2_init l G base M3 a2 x1 (0 : Int32) _ h) rfl k_ml_RX4_24 k_im_yX2_init k_in_RX2 k_co_yX2_init (by decide +kernel) ⟨by decide, by decide⟩ rfl rfl (by simp [cat_vr, cat_r, cat_i, cat_l, cat_d]) hl dX4_init_152 (fun v M4 H locs d0 cells slots hq hd0 hZ hm => ?_)
      clear h
      obtain ⟨rfl, h⟩ := hq
      have ho_x0 := isO_le hm ho_x0
      have ho_a2 := isO_le hm ho_a2
      obtain ⟨a5, rfl, ho_a5, h⟩ := h
      obtain ⟨hin, h⟩ := h
      obtain ⟨M6, eM6⟩ : ∃ y : Mem, y = sR M4 a5 x2.toNatClampNeg (some a2) := ⟨_, rfl⟩
      refine z_aast (A d0) hZ (ci := 2) 4 rfl (by decide) rfl ho_a5 ho_a2 hin (fun q => (by cases q)) dX4_init_155 (fun H locs hZ => ?_)
      rw [← eM6] at hZ
      have hm : mz M6 = mz M4 := by rw [eM6] <;> rfl
      have ho_x0 := isO_le (Nat.le_of_eq hm.symm) ho_x0
      replace h := h M6 eM6
      refine lv_iload_n hx hb dX4_init_156 rfl (lv_at hl 1 rfl) ?_
      refine lv_iconst (v := (1 : Int32)) hx hb dX4_init_157 (by decide) ?_
      refine lv_iadd hx hb dX4_init_158 ?_
      refine lv_iconst (v := (2 : Int32)) hx hb dX4_init_159 (by decide) ?_
      obtain ⟨hne, h⟩ := h
      refine lv_idiv hx hb dX4_init_160 hne ?_
      obtain ⟨i7, ei7⟩ : ∃ y : Int32, y = (x1 + (1 : Int32)) / (2 : Int32) := ⟨_, rfl⟩
      rw [← ei7]
      replace h := h i7 ei7
      refine lv_istore_n (lv' := [(1, .int i7), (0, .ref (base + x0)), (2, .int x2)]) hx hb dX4_init_161 rfl hl (by decide) rfl (fun ls hl2 => ?_)
      replace hl := hl2
      obtain ⟨i8, ei8⟩ : ∃ y : Int32, y = x2 + (1 : Int32) := ⟨_, rfl⟩
      replace h := h i8 ei8
      refine lv_iinc (v := i8) (lv' := [(2, .int i8), (1, .int i7), (0, .ref (base + x0))]) hx hb dX4_init_162 hl (k := 2) rfl (by rw [ei8]; rfl) (by decide) rfl (fun ls hl2 => ?_)
      replace hl := hl2
      refine lv_goto (tgt := 135) hx hb dX4_init_165 (by decide) ?_
      exact ih ho_x0 hd0 hZ (lv_sub hl [2, 1, 0] rfl) h hK168
set_option maxRecDepth 100000 in
set_option maxHeartbeats 4000000 in
theorem zb_X4_init_168 {p : Program} {l : Launch} {e : Env} {R : Room} {s : State} {m : MethodId} {args : Array Value} {below : List Frame} {meth : Method} {c : Code} {G : ZG} {base z0 : Nat} {Q : Mem → Prop} (A : ∀ d, Amb p R (s.setDrawn d) m args meth c G base z0 cX4_init yX4_init.cls 3 2 34) (hr : meth.sig.returnType = none) (hn : meth.name = "<init>") {d0 : Drawn} {H : Heap} {locs : List Loc} {cells slots : Nat} {ls : Array Slot}  {M : Mem} (hd0 : s.drawn.sameBut d0 lw_cs) (hZ : ZH G false base s.heap M H locs) (hl : lv_has ls 3 []) (h : wp_X4_init_168 M Q) : W p l e R (s.setDrawn d0) m args below meth c H locs cells slots (ZEnd below G false base z0 (qV Q) args s) (F0 m 168 ls []) := by
  have hx := (A d0).1
  have hb := (A d0).2.1
  unfold wp_X4_init_168 at h
  exact z_vret A hd0 hZ hr ⟨rfl, h⟩ dX4_init_168
set_option maxRecDepth 100000 in
set_option maxHeartbeats 4000000 in
theorem c_X4_init (l : Launch) (G : ZG) (base : Nat) (M : Mem) (x0 : Nat) (Q : Mem → Prop) (h : wp_X4_init x0 M Q) : ZMet l yX4_init cX4_init 3 none 2 34 G false base M [.ref (base + x0)] (qV Q) := by
  refine z_start (by decide) (Nat.le_of_ble_eq_true rfl) k_co_yX4_init ?_
  intro p e s m below meth c R d0 H locs cells slots ls A hr hn hd0 hZ hl
  have hx := (A d0).1
  have hb := (A d0).2.1
  have hl : lv_has ls 3 [(0, .ref (base + x0))] := hl
  have hn : meth.name = "<init>" := hn
  unfold wp_X4_init at h
  obtain ⟨ho_x0, h⟩ := h
  refine lv_aload_n hx hb dX4_init_0 rfl (lv_at hl 0 rfl) ?_
  refine z_objInit (A d0) k_ml_RX4_5 hl dX4_init_1 (by decide) (Nat.le_of_ble_eq_true rfl) ?_
  refine lv_aload_n hx hb dX4_init_4 rfl (lv_at hl 0 rfl) ?_
  refine lv_sipush (v := (300 : Int32)) hx hb dX4_init_5 (by decide) ?_
  obtain ⟨hn0, hlt, hs, hby, h⟩ := h
  obtain ⟨M10, eM10⟩ : ∃ y : Mem, y = nw M := ⟨_, rfl⟩
  obtain ⟨a9, ea9⟩ : ∃ y : Nat, y = mz M := ⟨_, rfl⟩
  have ho_a9 : isA M10 a9 .long := ⟨⟨_, by rw [ea9]; exact hs⟩, by rw [eM10, ea9]; exact Nat.lt_succ_self _⟩
  refine z_newa (t := .long) (A d0) hZ ea9 rfl 1 rfl (Or.inr (Or.inl rfl)) hs hlt k_ac_long (fun _ q => by cases q) hn0 rfl (Nat.le_trans (Nat.mul_le_mul_left _ (by decide)) hby) dX4_init_8 (fun H cells slots hZ => ?_)
  rw [← eM10] at hZ
  have hm : mz M ≤ mz M10 := by rw [eM10]; exact Nat.le_succ _
  have ho_x0 := isO_le hm ho_x0
  replace h := h a9 M10 ea9 eM10
  obtain ⟨M11, eM11⟩ : ∃ y : Mem, y = sR M10 x0 0 (some a9) := ⟨_, rfl⟩
  refine z_putF (A d0) hZ (ci := 4) (j := 0) (M' := M11) ho_x0.1 ho_x0.2 (by decide) (by decide) k_fl_RX4_11 rfl rfl hn (by rw [eM11]; exact zUpd_A (fun q => (by cases q))) rfl rfl dX4_init_10 (fun H locs hZ => ?_)
  have hm : mz M11 = mz M10 := by rw [eM11] <;> rfl
  have ho_x0 := isO_le (Nat.le_of_eq hm.symm) ho_x0
  replace h := h M11 eM11
  refine lv_aload_n hx hb dX4_init_13 rfl (lv_at hl 0 rfl) ?_
  refine lv_iconst (v := (0 : Int32)) hx hb dX4_init_14 (by decide) ?_
  obtain ⟨M12, eM12⟩ : ∃ y : Mem, y = sI M11 x0 1 (0 : Int32) := ⟨_, rfl⟩
  refine z_put (A d0) hZ (ci := 4) (j := 1) (M' := M12) ho_x0.1 ho_x0.2 (by decide) (by decide) k_fl_RX4_15 rfl (by rw [eM12]; exact zUpd_I) rfl rfl dX4_init_15 (fun H locs hZ => ?_)
  have hm : mz M12 = mz M11 := by rw [eM12] <;> rfl
  have ho_x0 := isO_le (Nat.le_of_eq hm.symm) ho_x0
  replace h := h M12 eM12
  refine lv_aload_n hx hb dX4_init_18 rfl (lv_at hl 0 rfl) ?_
  refine lv_bipush (v := (8 : Int32)) hx hb dX4_init_19 (by decide) ?_
  obtain ⟨M13, eM13⟩ : ∃ y : Mem, y = sI M12 x0 2 (8 : Int32) := ⟨_, rfl⟩
  refine z_put (A d0) hZ (ci := 4) (j := 2) (M' := M13) ho_x0.1 ho_x0.2 (by decide) (by decide) k_fl_RX4_19 rfl (by rw [eM13]; exact zUpd_I) rfl rfl dX4_init_21 (fun H locs hZ => ?_)
  have hm : mz M13 = mz M12 := by rw [eM13] <;> rfl
  have ho_x0 := isO_le (Nat.le_of_eq hm.symm) ho_x0
  replace h := h M13 eM13
  refine lv_aload_n hx hb dX4_init_24 rfl (lv_at hl 0 rfl) ?_
  obtain ⟨hlt, h⟩ := h
  obtain ⟨hs, h⟩ := h
  obtain ⟨M15, eM15⟩ : ∃ y : Mem, y = nw M13 := ⟨_, rfl⟩
  obtain ⟨a14, ea14⟩ : ∃ y : Nat, y = mz M13 := ⟨_, rfl⟩
  have ho_a14 : isO M15 a14 2 := ⟨by rw [ea14]; exact hs, by rw [eM15, ea14]; exact Nat.lt_succ_self _⟩
  refine z_new (A d0) hZ ea14 (ci := 2) (by decide) hs hlt k_cl_RX4_22 k_is_RX2 k_in_RX2 (fun _ q => by cases q) (nofl _ (by decide)) dX4_init_25 (fun H cells slots hZ => ?_)
  rw [← eM15] at hZ
  have hm : mz M13 ≤ mz M15 := by rw [eM15]; exact Nat.le_succ _
  have ho_x0 := isO_le hm ho_x0
  replace h := h a14 M15 ea14 eM15
  refine lv_dup hx hb dX4_init_28 rfl ?_
  refine lv_sipush (v := (600 : Int32)) hx hb dX4_init_29 (by decide) ?_
  refine lv_sipush (v := (300 : Int32)) hx hb dX4_init_32 (by decide) ?_
  refine z_callI A hd0 hZ (nA := 2) (As := [.int (600 : Int32), .int (300 : Int32)]) (c_X2_init l G base M15 a14 (600 : Int32) (300 : Int32) _ h) rfl k_ml_RX4_24 k_im_yX2_init k_in_RX2 k_co_yX2_init (by decide +kernel) ⟨by decide, by decide⟩ rfl rfl (Nat.le_of_ble_eq_true rfl) hl dX4_init_35 (fun v M16 H locs d0 cells slots hq hd0 hZ hm => ?_)
  clear h
  obtain ⟨rfl, h⟩ := hq
  have ho_x0 := isO_le hm ho_x0
  have ho_a14 := isO_le hm ho_a14
  obtain ⟨M17, eM17⟩ : ∃ y : Mem, y = sR M16 x0 3 (some a14) := ⟨_, rfl⟩
  refine z_put (A d0) hZ (ci := 4) (j := 3) (M' := M17) ho_x0.1 ho_x0.2 (by decide) (by decide) k_fl_RX4_27 rfl (by rw [eM17]; exact zUpd_R (fun q => (by cases q))) rfl rfl dX4_init_38 (fun H locs hZ => ?_)
  have hm : mz M17 = mz M16 := by rw [eM17] <;> rfl
  have ho_x0 := isO_le (Nat.le_of_eq hm.symm) ho_x0
  replace h := h M17 eM17
  refine lv_aload_n hx hb dX4_init_41 rfl (lv_at hl 0 rfl) ?_
  obtain ⟨hlt, h⟩ := h
  obtain ⟨hs, h⟩ := h
  obtain ⟨M19, eM19⟩ : ∃ y : Mem, y = nw M17 := ⟨_, rfl⟩
  obtain ⟨a18, ea18⟩ : ∃ y : Nat, y = mz M17 := ⟨_, rfl⟩
  have ho_a18 : isO M19 a18 2 := ⟨by rw [ea18]; exact hs, by rw [eM19, ea18]; exact Nat.lt_succ_self _⟩
  refine z_new (A d0) hZ ea18 (ci := 2) (by decide) hs hlt k_cl_RX4_22 k_is_RX2 k_in_RX2 (fun _ q => by cases q) (nofl _ (by decide)) dX4_init_42 (fun H cells slots hZ => ?_)
  rw [← eM19] at hZ
  have hm : mz M17 ≤ mz M19 := by rw [eM19]; exact Nat.le_succ _
  have ho_x0 := isO_le hm ho_x0
  replace h := h a18 M19 ea18 eM19
  refine lv_dup hx hb dX4_init_45 rfl ?_
  refine lv_sipush (v := (600 : Int32)) hx hb dX4_init_46 (by decide) ?_
  refine lv_sipush (v := (300 : Int32)) hx hb dX4_init_49 (by decide) ?_
  refine z_callI A hd0 hZ (nA := 2) (As := [.int (600 : Int32), .int (300 : Int32)]) (c_X2_init l G base M19 a18 (600 : Int32) (300 : Int32) _ h) rfl k_ml_RX4_24 k_im_yX2_init k_in_RX2 k_co_yX2_init (by decide +kernel) ⟨by decide, by decide⟩ rfl rfl (Nat.le_of_ble_eq_true rfl) hl dX4_init_52 (fun v M20 H locs d0 cells slots hq hd0 hZ hm => ?_)
  clear h
  obtain ⟨rfl, h⟩ := hq
  have ho_x0 := isO_le hm ho_x0
  have ho_a18 := isO_le hm ho_a18
  obtain ⟨M21, eM21⟩ : ∃ y : Mem, y = sR M20 x0 4 (some a18) := ⟨_, rfl⟩
  refine z_put (A d0) hZ (ci := 4) (j := 4) (M' := M21) ho_x0.1 ho_x0.2 (by decide) (by decide) k_fl_RX4_31 rfl (by rw [eM21]; exact zUpd_R (fun q => (by cases q))) rfl rfl dX4_init_55 (fun H locs hZ => ?_)
  have hm : mz M21 = mz M20 := by rw [eM21] <;> rfl
  have ho_x0 := isO_le (Nat.le_of_eq hm.symm) ho_x0
  replace h := h M21 eM21
  refine lv_aload_n hx hb dX4_init_58 rfl (lv_at hl 0 rfl) ?_
  refine lv_bipush (v := (10 : Int32)) hx hb dX4_init_59 (by decide) ?_
  obtain ⟨hn0, hlt, hs, hby, h⟩ := h
  obtain ⟨M23, eM23⟩ : ∃ y : Mem, y = nw M21 := ⟨_, rfl⟩
  obtain ⟨a22, ea22⟩ : ∃ y : Nat, y = mz M21 := ⟨_, rfl⟩
  have ho_a22 : isA M23 a22 (.object "LeaningIndex$Tier") := ⟨⟨_, by rw [ea22]; exact hs⟩, by rw [eM23, ea22]; exact Nat.lt_succ_self _⟩
  refine z_newq (A d0) hZ ea22 4 rfl hs hlt k_cl_RX4_22 k_ao_RX2 (fun _ q => by cases q) hn0 rfl (Nat.le_trans (Nat.mul_le_mul_left _ (by decide)) hby) dX4_init_61 (fun H cells slots hZ => ?_)
  rw [← eM23] at hZ
  have hm : mz M21 ≤ mz M23 := by rw [eM23]; exact Nat.le_succ _
  have ho_x0 := isO_le hm ho_x0
  replace h := h a22 M23 ea22 eM23
  obtain ⟨M24, eM24⟩ : ∃ y : Mem, y = sR M23 x0 5 (some a22) := ⟨_, rfl⟩
  refine z_putF (A d0) hZ (ci := 4) (j := 5) (M' := M24) ho_x0.1 ho_x0.2 (by decide) (by decide) k_fl_RX4_34 rfl rfl hn (by rw [eM24]; exact zUpd_A (fun q => (by cases q))) rfl rfl dX4_init_64 (fun H locs hZ => ?_)
  have hm : mz M24 = mz M23 := by rw [eM24] <;> rfl
  have ho_x0 := isO_le (Nat.le_of_eq hm.symm) ho_x0
  replace h := h M24 eM24
  refine lv_aload_n hx hb dX4_init_67 rfl (lv_at hl 0 rfl) ?_
  refine lv_iconst (v := (0 : Int32)) hx hb dX4_init_68 (by decide) ?_
  obtain ⟨M25, eM25⟩ : ∃ y : Mem, y = sI M24 x0 6 (0 : Int32) := ⟨_, rfl⟩
  refine z_put (A d0) hZ (ci := 4) (j := 6) (M' := M25) ho_x0.1 ho_x0.2 (by decide) (by decide) k_fl_RX4_38 rfl (by rw [eM25]; exact zUpd_I) rfl rfl dX4_init_69 (fun H locs hZ => ?_)
  have hm : mz M25 = mz M24 := by rw [eM25] <;> rfl
  have ho_x0 := isO_le (Nat.le_of_eq hm.symm) ho_x0
  replace h := h M25 eM25
  refine lv_aload_n hx hb dX4_init_72 rfl (lv_at hl 0 rfl) ?_
  refine lv_iconst (v := (0 : Int32)) hx hb dX4_init_73 (by decide) ?_
  obtain ⟨M26, eM26⟩ : ∃ y : Mem, y = sI M25 x0 7 (0 : Int32) := ⟨_, rfl⟩
  refine z_put (A d0) hZ (ci := 4) (j := 7) (M' := M26) ho_x0.1 ho_x0.2 (by decide) (by decide) k_fl_RX4_41 rfl (by rw [eM26]; exact zUpd_I) rfl rfl dX4_init_74 (fun H locs hZ => ?_)
  have hm : mz M26 = mz M25 := by rw [eM26] <;> rfl
  have ho_x0 := isO_le (Nat.le_of_eq hm.symm) ho_x0
  replace h := h M26 eM26
  refine lv_aload_n hx hb dX4_init_77 rfl (lv_at hl 0 rfl) ?_
  refine lv_iconst (v := (0 : Int32)) hx hb dX4_init_78 (by decide) ?_
  obtain ⟨M27, eM27⟩ : ∃ y : Mem, y = sI M26 x0 8 (0 : Int32) := ⟨_, rfl⟩
  refine z_put (A d0) hZ (ci := 4) (j := 8) (M' := M27) ho_x0.1 ho_x0.2 (by decide) (by decide) k_fl_RX4_44 rfl (by rw [eM27]; exact zUpd_I) rfl rfl dX4_init_79 (fun H locs hZ => ?_)
  have hm : mz M27 = mz M26 := by rw [eM27] <;> rfl
  have ho_x0 := isO_le (Nat.le_of_eq hm.symm) ho_x0
  replace h := h M27 eM27
  refine lv_aload_n hx hb dX4_init_82 rfl (lv_at hl 0 rfl) ?_
  refine lv_iconst (v := (0 : Int32)) hx hb dX4_init_83 (by decide) ?_
  obtain ⟨M28, eM28⟩ : ∃ y : Mem, y = sI M27 x0 9 (0 : Int32) := ⟨_, rfl⟩
  refine z_put (A d0) hZ (ci := 4) (j := 9) (M' := M28) ho_x0.1 ho_x0.2 (by decide) (by decide) k_fl_RX4_47 rfl (by rw [eM28]; exact zUpd_I) rfl rfl dX4_init_84 (fun H locs hZ => ?_)
  have hm : mz M28 = mz M27 := by rw [eM28] <;> rfl
  have ho_x0 := isO_le (Nat.le_of_eq hm.symm) ho_x0
  replace h := h M28 eM28
  refine lv_aload_n hx hb dX4_init_87 rfl (lv_at hl 0 rfl) ?_
  obtain ⟨hlt, h⟩ := h
  obtain ⟨hs, h⟩ := h
  obtain ⟨M30, eM30⟩ : ∃ y : Mem, y = nw M28 := ⟨_, rfl⟩
  obtain ⟨a29, ea29⟩ : ∃ y : Nat, y = mz M28 := ⟨_, rfl⟩
  have ho_a29 : isO M30 a29 3 := ⟨by rw [ea29]; exact hs, by rw [eM30, ea29]; exact Nat.lt_succ_self _⟩
  refine z_new (A d0) hZ ea29 (ci := 3) (by decide) hs hlt k_cl_RX4_50 k_is_RX3 k_in_RX3 (fun _ q => by cases q) (nofl _ (by decide)) dX4_init_88 (fun H cells slots hZ => ?_)
  rw [← eM30] at hZ
  have hm : mz M28 ≤ mz M30 := by rw [eM30]; exact Nat.le_succ _
  have ho_x0 := isO_le hm ho_x0
  replace h := h a29 M30 ea29 eM30
  refine lv_dup hx hb dX4_init_91 rfl ?_
  refine z_callIN A hd0 hZ (nA := 0) (As := []) (c_X3_init l G base M30 a29 _ h) rfl k_mn_RX4_52 k_im_yX3_init k_in_RX3 k_co_yX3_init (by decide +kernel) ⟨by decide, by decide⟩ rfl rfl (Nat.le_of_ble_eq_true rfl) hl dX4_init_92 (fun v M31 H locs d0 cells slots hq hd0 hZ hm => ?_)
  clear h
  obtain ⟨rfl, h⟩ := hq
  have ho_x0 := isO_le hm ho_x0
  have ho_a29 := isO_le hm ho_a29
  obtain ⟨M32, eM32⟩ : ∃ y : Mem, y = sR M31 x0 10 (some a29) := ⟨_, rfl⟩
  refine z_putF (A d0) hZ (ci := 4) (j := 10) (M' := M32) ho_x0.1 ho_x0.2 (by decide) (by decide) k_fl_RX4_53 rfl rfl hn (by rw [eM32]; exact zUpd_R (fun q => (by cases q))) rfl rfl dX4_init_95 (fun H locs hZ => ?_)
  have hm : mz M32 = mz M31 := by rw [eM32] <;> rfl
  have ho_x0 := isO_le (Nat.le_of_eq hm.symm) ho_x0
  replace h := h M32 eM32
  refine lv_aload_n hx hb dX4_init_98 rfl (lv_at hl 0 rfl) ?_
  obtain ⟨hlt, h⟩ := h
  obtain ⟨hs, h⟩ := h
  obtain ⟨M34, eM34⟩ : ∃ y : Mem, y = nw M32 := ⟨_, rfl⟩
  obtain ⟨a33, ea33⟩ : ∃ y : Nat, y = mz M32 := ⟨_, rfl⟩
  have ho_a33 : isO M34 a33 3 := ⟨by rw [ea33]; exact hs, by rw [eM34, ea33]; exact Nat.lt_succ_self _⟩
  refine z_new (A d0) hZ ea33 (ci := 3) (by decide) hs hlt k_cl_RX4_50 k_is_RX3 k_in_RX3 (fun _ q => by cases q) (nofl _ (by decide)) dX4_init_99 (fun H cells slots hZ => ?_)
  rw [← eM34] at hZ
  have hm : mz M32 ≤ mz M34 := by rw [eM34]; exact Nat.le_succ _
  have ho_x0 := isO_le hm ho_x0
  replace h := h a33 M34 ea33 eM34
  refine lv_dup hx hb dX4_init_102 rfl ?_
  refine z_callIN A hd0 hZ (nA := 0) (As := []) (c_X3_init l G base M34 a33 _ h) rfl k_mn_RX4_52 k_im_yX3_init k_in_RX3 k_co_yX3_init (by decide +kernel) ⟨by decide, by decide⟩ rfl rfl (Nat.le_of_ble_eq_true rfl) hl dX4_init_103 (fun v M35 H locs d0 cells slots hq hd0 hZ hm => ?_)
  clear h
  obtain ⟨rfl, h⟩ := hq
  have ho_x0 := isO_le hm ho_x0
  have ho_a33 := isO_le hm ho_a33
  obtain ⟨M36, eM36⟩ : ∃ y : Mem, y = sR M35 x0 11 (some a33) := ⟨_, rfl⟩
  refine z_putF (A d0) hZ (ci := 4) (j := 11) (M' := M36) ho_x0.1 ho_x0.2 (by decide) (by decide) k_fl_RX4_57 rfl rfl hn (by rw [eM36]; exact zUpd_R (fun q => (by cases q))) rfl rfl dX4_init_106 (fun H locs hZ => ?_)
  have hm : mz M36 = mz M35 := by rw [eM36] <;> rfl
  have ho_x0 := isO_le (Nat.le_of_eq hm.symm) ho_x0
  replace h := h M36 eM36
  refine lv_aload_n hx hb dX4_init_109 rfl (lv_at hl 0 rfl) ?_
  obtain ⟨hlt, h⟩ := h
  obtain ⟨hs, h⟩ := h
  obtain ⟨M38, eM38⟩ : ∃ y : Mem, y = nw M36 := ⟨_, rfl⟩
  obtain ⟨a37, ea37⟩ : ∃ y : Nat, y = mz M36 := ⟨_, rfl⟩
  have ho_a37 : isO M38 a37 1 := ⟨by rw [ea37]; exact hs, by rw [eM38, ea37]; exact Nat.lt_succ_self _⟩
  refine z_new (A d0) hZ ea37 (ci := 1) (by decide) hs hlt k_cl_RX4_60 k_is_RX1 k_in_RX1 (fun _ q => by cases q) (nofl _ (by decide)) dX4_init_110 (fun H cells slots hZ => ?_)
  rw [← eM38] at hZ
  have hm : mz M36 ≤ mz M38 := by rw [eM38]; exact Nat.le_succ _
  have ho_x0 := isO_le hm ho_x0
  replace h := h a37 M38 ea37 eM38
  refine lv_dup hx hb dX4_init_113 rfl ?_
  refine z_callIN A hd0 hZ (nA := 0) (As := []) (c_X1_init l G base M38 a37 _ h) rfl k_mn_RX4_62 k_im_yX1_init k_in_RX1 k_co_yX1_init (by decide +kernel) ⟨by decide, by decide⟩ rfl rfl (Nat.le_of_ble_eq_true rfl) hl dX4_init_114 (fun v M39 H locs d0 cells slots hq hd0 hZ hm => ?_)
  clear h
  obtain ⟨rfl, h⟩ := hq
  have ho_x0 := isO_le hm ho_x0
  have ho_a37 := isO_le hm ho_a37
  obtain ⟨M40, eM40⟩ : ∃ y : Mem, y = sR M39 x0 12 (some a37) := ⟨_, rfl⟩
  refine z_putF (A d0) hZ (ci := 4) (j := 12) (M' := M40) ho_x0.1 ho_x0.2 (by decide) (by decide) k_fl_RX4_63 rfl rfl hn (by rw [eM40]; exact zUpd_R (fun q => (by cases q))) rfl rfl dX4_init_117 (fun H locs hZ => ?_)
  have hm : mz M40 = mz M39 := by rw [eM40] <;> rfl
  have ho_x0 := isO_le (Nat.le_of_eq hm.symm) ho_x0
  replace h := h M40 eM40
  refine lv_aload_n hx hb dX4_init_120 rfl (lv_at hl 0 rfl) ?_
  refine lv_sipush (v := (600 : Int32)) hx hb dX4_init_121 (by decide) ?_
  obtain ⟨hn0, hlt, hs, hby, h⟩ := h
  obtain ⟨M42, eM42⟩ : ∃ y : Mem, y = nw M40 := ⟨_, rfl⟩
  obtain ⟨a41, ea41⟩ : ∃ y : Nat, y = mz M40 := ⟨_, rfl⟩
  have ho_a41 : isA M42 a41 .long := ⟨⟨_, by rw [ea41]; exact hs⟩, by rw [eM42, ea41]; exact Nat.lt_succ_self _⟩
  refine z_newa (t := .long) (A d0) hZ ea41 rfl 1 rfl (Or.inr (Or.inl rfl)) hs hlt k_ac_long (fun _ q => by cases q) hn0 rfl (Nat.le_trans (Nat.mul_le_mul_left _ (by decide)) hby) dX4_init_124 (fun H cells slots hZ => ?_)
  rw [← eM42] at hZ
  have hm : mz M40 ≤ mz M42 := by rw [eM42]; exact Nat.le_succ _
  have ho_x0 := isO_le hm ho_x0
  replace h := h a41 M42 ea41 eM42
  obtain ⟨M43, eM43⟩ : ∃ y : Mem, y = sR M42 x0 13 (some a41) := ⟨_, rfl⟩
  refine z_putF (A d0) hZ (ci := 4) (j := 13) (M' := M43) ho_x0.1 ho_x0.2 (by decide) (by decide) k_fl_RX4_67 rfl rfl hn (by rw [eM43]; exact zUpd_A (fun q => (by cases q))) rfl rfl dX4_init_126 (fun H locs hZ => ?_)
  have hm : mz M43 = mz M42 := by rw [eM43] <;> rfl
  have ho_x0 := isO_le (Nat.le_of_eq hm.symm) ho_x0
  replace h := h M43 eM43
  refine lv_sipush (v := (600 : Int32)) hx hb dX4_init_129 (by decide) ?_
  refine lv_istore_n (lv' := [(1, .int (600 : Int32)), (0, .ref (base + x0))]) hx hb dX4_init_132 rfl hl (by decide) rfl (fun ls hl2 => ?_)
  replace hl := hl2
  refine lv_iconst (v := (0 : Int32)) hx hb dX4_init_133 (by decide) ?_
  refine lv_istore_n (lv' := [(2, .int (0 : Int32)), (1, .int (600 : Int32)), (0, .ref (base + x0))]) hx hb dX4_init_134 rfl hl (by decide) rfl (fun ls hl2 => ?_)
  replace hl := hl2
  exact (Exists.elim h fun kk h => zb_X4_init_135 A hr hn kk ho_x0 hd0 hZ (lv_sub hl [2, 1, 0] rfl) h (fun hd0 hZ hl h => (zb_X4_init_168 A hr hn hd0 hZ hl h)))
/-! cX4_isKey -/
set_option maxRecDepth 100000 in
set_option maxHeartbeats 4000000 in
theorem zb_X4_isKey_21 {p : Program} {l : Launch} {e : Env} {R : Room} {s : State} {m : MethodId} {args : Array Value} {below : List Frame} {meth : Method} {c : Code} {G : ZG} {base z0 : Nat} {Q : Int32 → Mem → Prop} (A : ∀ d, Amb p R (s.setDrawn d) m args meth c G base z0 cX4_isKey yX4_isKey.cls 2 0 0) (hr : meth.sig.returnType = (some .boolean)) {d0 : Drawn} {H : Heap} {locs : List Loc} {cells slots : Nat} {ls : Array Slot} {t0 : Int32} {M : Mem} (hd0 : s.drawn.sameBut d0 lw_cs) (hZ : ZH G true base s.heap M H locs) (hl : lv_has ls 2 []) (h : wp_X4_isKey_21 t0 M Q) : W p l e R (s.setDrawn d0) m args below meth c H locs cells slots (ZEnd below G true base z0 (qI Q) args s) (F0 m 21 ls [.int t0]) := by
  have hx := (A d0).1
  have hb := (A d0).2.1
  unfold wp_X4_isKey_21 at h
  exact z_zret A hd0 hZ hr h.1 ⟨_, rfl, h.2⟩ dX4_isKey_21
set_option maxRecDepth 100000 in
set_option maxHeartbeats 4000000 in
theorem zb_X4_isKey_20 {p : Program} {l : Launch} {e : Env} {R : Room} {s : State} {m : MethodId} {args : Array Value} {below : List Frame} {meth : Method} {c : Code} {G : ZG} {base z0 : Nat} {Q : Int32 → Mem → Prop} (A : ∀ d, Amb p R (s.setDrawn d) m args meth c G base z0 cX4_isKey yX4_isKey.cls 2 0 0) (hr : meth.sig.returnType = (some .boolean)) {d0 : Drawn} {H : Heap} {locs : List Loc} {cells slots : Nat} {ls : Array Slot}  {M : Mem} (hd0 : s.drawn.sameBut d0 lw_cs) (hZ : ZH G true base s.heap M H locs) (hl : lv_has ls 2 []) (h : wp_X4_isKey_20 M Q) : W p l e R (s.setDrawn d0) m args below meth c H locs cells slots (ZEnd below G true base z0 (qI Q) args s) (F0 m 20 ls []) := by
  have hx := (A d0).1
  have hb := (A d0).2.1
  unfold wp_X4_isKey_20 at h
  refine lv_iconst (v := (0 : Int32)) hx hb dX4_isKey_20 (by decide) ?_
  exact (zb_X4_isKey_21 A hr hd0 hZ (lv_sub hl [] rfl) h)
set_option maxRecDepth 100000 in
set_option maxHeartbeats 4000000 in
theorem c_X4_isKey (l : Launch) (G : ZG) (base : Nat) (M : Mem) (x0 : Int64) (Q : Int32 → Mem → Prop) (h : wp_X4_isKey x0 M Q) : ZMet l yX4_isKey cX4_isKey 2 (some .boolean) 0 0 G true base M [.long x0] (qI Q) := by
  refine z_start (by decide) (Nat.le_of_ble_eq_true rfl) k_co_yX4_isKey ?_
  intro p e s m below meth c R d0 H locs cells slots ls A hr hn hd0 hZ hl
  have hx := (A d0).1
  have hb := (A d0).2.1
  have hl : lv_has ls 2 [(0, .long x0)] := hl
  unfold wp_X4_isKey at h
  refine lv_lload_n hx hb dX4_isKey_0 rfl (lv_at hl 0 rfl) ?_
  refine lv_ldc2 (v := (-1000000000000 : Int64)) hx hb (A d0).2.2.2.1 ((A d0).2.2.2.2.1 _ k_lc_RX4_269) dX4_isKey_1 ?_
  refine z_lc_lt (tgt := 20) hx hb dX4_isKey_4 dX4_isKey_5 (by decide) (fun hc => ?_) (fun hc => ?_)
  · replace h := h.1 hc
    exact (zb_X4_isKey_20 A hr hd0 hZ (lv_sub hl [] rfl) h)
  · replace h := h.2 hc
    refine lv_lload_n hx hb dX4_isKey_8 rfl (lv_at hl 0 rfl) ?_
    refine lv_ldc2 (v := (1000000000000 : Int64)) hx hb (A d0).2.2.2.1 ((A d0).2.2.2.2.1 _ k_lc_RX4_77) dX4_isKey_9 ?_
    refine z_lc_gt (tgt := 20) hx hb dX4_isKey_12 dX4_isKey_13 (by decide) (fun hc => ?_) (fun hc => ?_)
    · replace h := h.1 hc
      exact (zb_X4_isKey_20 A hr hd0 hZ (lv_sub hl [] rfl) h)
    · replace h := h.2 hc
      refine lv_iconst (v := (1 : Int32)) hx hb dX4_isKey_16 (by decide) ?_
      refine lv_goto (tgt := 21) hx hb dX4_isKey_17 (by decide) ?_
      exact (zb_X4_isKey_21 A hr hd0 hZ (lv_sub hl [] rfl) h)
/-! cX4_isAboveRow -/
set_option maxRecDepth 100000 in
set_option maxHeartbeats 4000000 in
theorem zb_X4_isAboveRow_28 {p : Program} {l : Launch} {e : Env} {R : Room} {s : State} {m : MethodId} {args : Array Value} {below : List Frame} {meth : Method} {c : Code} {G : ZG} {base z0 : Nat} {Q : Int32 → Mem → Prop} (A : ∀ d, Amb p R (s.setDrawn d) m args meth c G base z0 cX4_isAboveRow yX4_isAboveRow.cls 3 0 0) (hr : meth.sig.returnType = (some .boolean)) {d0 : Drawn} {H : Heap} {locs : List Loc} {cells slots : Nat} {ls : Array Slot} {t0 : Int32} {M : Mem} (hd0 : s.drawn.sameBut d0 lw_cs) (hZ : ZH G true base s.heap M H locs) (hl : lv_has ls 3 []) (h : wp_X4_isAboveRow_28 t0 M Q) : W p l e R (s.setDrawn d0) m args below meth c H locs cells slots (ZEnd below G true base z0 (qI Q) args s) (F0 m 28 ls [.int t0]) := by
  have hx := (A d0).1
  have hb := (A d0).2.1
  unfold wp_X4_isAboveRow_28 at h
  exact z_zret A hd0 hZ hr h.1 ⟨_, rfl, h.2⟩ dX4_isAboveRow_28
set_option maxRecDepth 100000 in
set_option maxHeartbeats 4000000 in
theorem zb_X4_isAboveRow_23 {p : Program} {l : Launch} {e : Env} {R : Room} {s : State} {m : MethodId} {args : Array Value} {below : List Frame} {meth : Method} {c : Code} {G : ZG} {base z0 : Nat} {Q : Int32 → Mem → Prop} (A : ∀ d, Amb p R (s.setDrawn d) m args meth c G base z0 cX4_isAboveRow yX4_isAboveRow.cls 3 0 0) (hr : meth.sig.returnType = (some .boolean)) {d0 : Drawn} {H : Heap} {locs : List Loc} {cells slots : Nat} {ls : Array Slot}  {M : Mem} (hd0 : s.drawn.sameBut d0 lw_cs) (hZ : ZH G true base s.heap M H locs) (hl : lv_has ls 3 []) (h : wp_X4_isAboveRow_23 M Q) : W p l e R (s.setDrawn d0) m args below meth c H locs cells slots (ZEnd below G true base z0 (qI Q) args s) (F0 m 23 ls []) := by
  have hx := (A d0).1
  have hb := (A d0).2.1
  unfold wp_X4_isAboveRow_23 at h
  refine lv_iconst (v := (1 : Int32)) hx hb dX4_isAboveRow_23 (by decide) ?_
  refine lv_goto (tgt := 28) hx hb dX4_isAboveRow_24 (by decide) ?_
  exact (zb_X4_isAboveRow_28 A hr hd0 hZ (lv_sub hl [] rfl) h)
set_option maxRecDepth 100000 in
set_option maxHeartbeats 4000000 in
theorem c_X4_isAboveRow (l : Launch) (G : ZG) (base : Nat) (M : Mem) (x0 : Nat) (x1 : Int64) (Q : Int32 → Mem → Prop) (h : wp_X4_isAboveRow x0 x1 M Q) : ZMet l yX4_isAboveRow cX4_isAboveRow 3 (some .boolean) 0 0 G true base M [.ref (base + x0), .long x1] (qI Q) := by
  refine z_start (by decide) (Nat.le_of_ble_eq_true rfl) k_co_yX4_isAboveRow ?_
  intro p e s m below meth c R d0 H locs cells slots ls A hr hn hd0 hZ hl
  have hx := (A d0).1
  have hb := (A d0).2.1
  have hl : lv_has ls 3 [(0, .ref (base + x0)), (1, .long x1)] := hl
  unfold wp_X4_isAboveRow at h
  obtain ⟨ho_x0, h⟩ := h
  refine lv_aload_n hx hb dX4_isAboveRow_0 rfl (lv_at hl 0 rfl) ?_
  refine z_get (A d0) hZ (ci := 4) (j := 1) ho_x0.1 ho_x0.2 (by decide) (by decide) k_fl_RX4_15 (v := .int (mI M x0 1)) rfl dX4_isAboveRow_1 ?_
  refine lv_if_eq (tgt := 23) hx hb dX4_isAboveRow_4 (by decide) (fun hc => ?_) (fun hc => ?_)
  · replace h := h.1 hc
    exact (zb_X4_isAboveRow_23 A hr hd0 hZ (lv_sub hl [] rfl) h)
  · replace h := h.2 hc
    refine lv_lload_n hx hb dX4_isAboveRow_7 rfl (lv_at hl 1 rfl) ?_
    refine lv_aload_n hx hb dX4_isAboveRow_8 rfl (lv_at hl 0 rfl) ?_
    refine z_get (A d0) hZ (ci := 4) (j := 0) ho_x0.1 ho_x0.2 (by decide) (by decide) k_fl_RX4_11 (v := .ref (base + 1)) (zv_fin (zf4 ho_x0 rfl) rfl) dX4_isAboveRow_9 ?_
    refine lv_aload_n hx hb dX4_isAboveRow_12 rfl (lv_at hl 0 rfl) ?_
    refine z_get (A d0) hZ (ci := 4) (j := 1) ho_x0.1 ho_x0.2 (by decide) (by decide) k_fl_RX4_15 (v := .int (mI M x0 1)) rfl dX4_isAboveRow_13 ?_
    refine lv_iconst (v := (1 : Int32)) hx hb dX4_isAboveRow_16 (by decide) ?_
    refine lv_isub hx hb dX4_isAboveRow_17 ?_
    obtain ⟨hin, h⟩ := h
    refine z_lald (A d0) hZ (isA_c (a := 1) hZ.k0 (by decide) rfl) hin dX4_isAboveRow_18 ?_
    refine z_lc_le (tgt := 27) hx hb dX4_isAboveRow_19 dX4_isAboveRow_20 (by decide) (fun hc => ?_) (fun hc => ?_)
    · replace h := h.1 hc
      refine lv_iconst (v := (0 : Int32)) hx hb dX4_isAboveRow_27 (by decide) ?_
      exact (zb_X4_isAboveRow_28 A hr hd0 hZ (lv_sub hl [] rfl) h)
    · replace h := h.2 hc
      exact (zb_X4_isAboveRow_23 A hr hd0 hZ (lv_sub hl [] rfl) h)
/-! cX4_load -/
set_option maxRecDepth 100000 in
set_option maxHeartbeats 4000000 in
theorem zb_X4_load_15 {p : Program} {l : Launch} {e : Env} {R : Room} {s : State} {m : MethodId} {args : Array Value} {below : List Frame} {meth : Method} {c : Code} {G : ZG} {base z0 : Nat} {Q : Int32 → Mem → Prop} (A : ∀ d, Amb p R (s.setDrawn d) m args meth c G base z0 cX4_load yX4_load.cls 3 1 22) (hr : meth.sig.returnType = (some .int)) {d0 : Drawn} {H : Heap} {locs : List Loc} {cells slots : Nat} {ls : Array Slot}  {M : Mem} (hd0 : s.drawn.sameBut d0 lw_cs) (hZ : ZH G true base s.heap M H locs) (hl : lv_has ls 3 []) (h : wp_X4_load_15 M Q) : W p l e R (s.setDrawn d0) m args below meth c H locs cells slots (ZEnd below G true base z0 (qI Q) args s) (F0 m 15 ls []) := by
  have hx := (A d0).1
  have hb := (A d0).2.1
  unfold wp_X4_load_15 at h
  refine lv_bipush (v := (-2 : Int32)) hx hb dX4_load_15 (by decide) ?_
  exact z_iret A hd0 hZ hr ⟨_, rfl, h⟩ dX4_load_17
set_option maxRecDepth 100000 in
set_option maxHeartbeats 4000000 in
theorem c_X4_load (l : Launch) (G : ZG) (base : Nat) (M : Mem) (x0 : Nat) (x1 : Int64) (Q : Int32 → Mem → Prop) (h : wp_X4_load x0 x1 M Q) : ZMet l yX4_load cX4_load 3 (some .int) 1 22 G true base M [.ref (base + x0), .long x1] (qI Q) := by
  refine z_start (by decide) (Nat.le_of_ble_eq_true rfl) k_co_yX4_load ?_
  intro p e s m below meth c R d0 H locs cells slots ls A hr hn hd0 hZ hl
  have hx := (A d0).1
  have hb := (A d0).2.1
  have hl : lv_has ls 3 [(0, .ref (base + x0)), (1, .long x1)] := hl
  unfold wp_X4_load at h
  obtain ⟨ho_x0, h⟩ := h
  refine lv_lload_n hx hb dX4_load_0 rfl (lv_at hl 1 rfl) ?_
  refine z_callS A hd0 hZ (nA := 1) (As := [.long x1]) (c_X4_isKey l G base M x1 _ h) k_ml_RX4_70 k_st_yX4_isKey k_in_RX4 k_co_yX4_isKey (by decide +kernel) ⟨by decide, by decide⟩ rfl rfl (Nat.le_of_ble_eq_true rfl) hl dX4_load_1 (fun v M1 H locs d0 cells slots hq hd0 hZ hm => ?_)
  clear h
  obtain ⟨i2, rfl, h⟩ := hq
  have ho_x0 := isO_le hm ho_x0
  refine lv_if_eq (tgt := 15) hx hb dX4_load_4 (by decide) (fun hc => ?_) (fun hc => ?_)
  · replace h := h.1 hc
    exact (zb_X4_load_15 A hr hd0 hZ (lv_sub hl [] rfl) h)
  · replace h := h.2 hc
    refine lv_aload_n hx hb dX4_load_7 rfl (lv_at hl 0 rfl) ?_
    refine lv_lload_n hx hb dX4_load_8 rfl (lv_at hl 1 rfl) ?_
    refine z_callV A hd0 hZ (ci := 4) (nA := 1) (As := [.long x1]) (by decide) ho_x0 (c_X4_isAboveRow l G base M1 x0 x1 _ h) k_ml_RX4_74 k_im_yX4_isAboveRow k_se_yX4_isAboveRow k_in_RX4 k_co_yX4_isAboveRow (by decide +kernel) ⟨by decide, by decide⟩ rfl rfl (Nat.le_of_ble_eq_true rfl) hl dX4_load_9 (fun v M3 H locs d0 cells slots hq hd0 hZ hm => ?_)
    clear h
    obtain ⟨i4, rfl, h⟩ := hq
    have ho_x0 := isO_le hm ho_x0
    refine lv_if_ne (tgt := 18) hx hb dX4_load_12 (by decide) (fun hc => ?_) (fun hc => ?_)
    · replace h := h.1 hc
      refine lv_aload_n hx hb dX4_load_18 rfl (lv_at hl 0 rfl) ?_
      refine z_get (A d0) hZ (ci := 4) (j := 1) ho_x0.1 ho_x0.2 (by decide) (by decide) k_fl_RX4_15 (v := .int (mI M3 x0 1)) rfl dX4_load_19 ?_
      refine lv_sipush (v := (300 : Int32)) hx hb dX4_load_22 (by decide) ?_
      refine lv_icmp_lt (tgt := 31) hx hb dX4_load_25 (by decide) (fun hc => ?_) (fun hc => ?_)
      · replace h := h.1 hc
        refine lv_aload_n hx hb dX4_load_31 rfl (lv_at hl 0 rfl) ?_
        refine z_get (A d0) hZ (ci := 4) (j := 0) ho_x0.1 ho_x0.2 (by decide) (by decide) k_fl_RX4_11 (v := .ref (base + 1)) (zv_fin (zf4 ho_x0 rfl) rfl) dX4_load_32 ?_
        refine lv_aload_n hx hb dX4_load_35 rfl (lv_at hl 0 rfl) ?_
        refine z_get (A d0) hZ (ci := 4) (j := 1) ho_x0.1 ho_x0.2 (by decide) (by decide) k_fl_RX4_15 (v := .int (mI M3 x0 1)) rfl dX4_load_36 ?_
        refine lv_lload_n hx hb dX4_load_39 rfl (lv_at hl 1 rfl) ?_
        obtain ⟨hin, h⟩ := h
        obtain ⟨M5, eM5⟩ : ∃ y : Mem, y = sL M3 1 (mI M3 x0 1).toNatClampNeg x1 := ⟨_, rfl⟩
        refine z_last (A d0) hZ (isA_c (a := 1) hZ.k0 (by decide) rfl) hin dX4_load_40 (fun H locs hZ => ?_)
        rw [← eM5] at hZ
        have hm : mz M5 = mz M3 := by rw [eM5] <;> rfl
        have ho_x0 := isO_le (Nat.le_of_eq hm.symm) ho_x0
        replace h := h M5 eM5
        refine lv_aload_n hx hb dX4_load_41 rfl (lv_at hl 0 rfl) ?_
        refine lv_dup hx hb dX4_load_42 rfl ?_
        refine z_get (A d0) hZ (ci := 4) (j := 1) ho_x0.1 ho_x0.2 (by decide) (by decide) k_fl_RX4_15 (v := .int (mI M5 x0 1)) rfl dX4_load_43 ?_
        refine lv_iconst (v := (1 : Int32)) hx hb dX4_load_46 (by decide) ?_
        refine lv_iadd hx hb dX4_load_47 ?_
        obtain ⟨M6, eM6⟩ : ∃ y : Mem, y = sI M5 x0 1 ((mI M5 x0 1) + (1 : Int32)) := ⟨_, rfl⟩
        refine z_put (A d0) hZ (ci := 4) (j := 1) (M' := M6) ho_x0.1 ho_x0.2 (by decide) (by decide) k_fl_RX4_15 rfl (by rw [eM6]; exact zUpd_I) rfl rfl dX4_load_48 (fun H locs hZ => ?_)
        have hm : mz M6 = mz M5 := by rw [eM6] <;> rfl
        have ho_x0 := isO_le (Nat.le_of_eq hm.symm) ho_x0
        replace h := h M6 eM6
        refine lv_aload_n hx hb dX4_load_51 rfl (lv_at hl 0 rfl) ?_
        refine z_get (A d0) hZ (ci := 4) (j := 1) ho_x0.1 ho_x0.2 (by decide) (by decide) k_fl_RX4_15 (v := .int (mI M6 x0 1)) rfl dX4_load_52 ?_
        exact z_iret A hd0 hZ hr ⟨_, rfl, h⟩ dX4_load_55
      · replace h := h.2 hc
        refine lv_bipush (v := (-3 : Int32)) hx hb dX4_load_28 (by decide) ?_
        exact z_iret A hd0 hZ hr ⟨_, rfl, h⟩ dX4_load_30
    · replace h := h.2 hc
      exact (zb_X4_load_15 A hr hd0 hZ (lv_sub hl [] rfl) h)
/-! cX4_fill -/
set_option maxRecDepth 100000 in
set_option maxHeartbeats 4000000 in
theorem zb_X4_fill_27 {p : Program} {l : Launch} {e : Env} {R : Room} {s : State} {m : MethodId} {args : Array Value} {below : List Frame} {meth : Method} {c : Code} {G : ZG} {base z0 : Nat} {Q : Int32 → Mem → Prop} (A : ∀ d, Amb p R (s.setDrawn d) m args meth c G base z0 cX4_fill yX4_fill.cls 7 1 22) (hr : meth.sig.returnType = (some .int)) {d0 : Drawn} {H : Heap} {locs : List Loc} {cells slots : Nat} {ls : Array Slot}  {M : Mem} (hd0 : s.drawn.sameBut d0 lw_cs) (hZ : ZH G true base s.heap M H locs) (hl : lv_has ls 7 []) (h : wp_X4_fill_27 M Q) : W p l e R (s.setDrawn d0) m args below meth c H locs cells slots (ZEnd below G true base z0 (qI Q) args s) (F0 m 27 ls []) := by
  have hx := (A d0).1
  have hb := (A d0).2.1
  unfold wp_X4_fill_27 at h
  refine lv_bipush (v := (-2 : Int32)) hx hb dX4_fill_27 (by decide) ?_
  exact z_iret A hd0 hZ hr ⟨_, rfl, h⟩ dX4_fill_29
set_option maxRecDepth 100000 in
set_option maxHeartbeats 4000000 in
theorem zb_X4_fill_68 {p : Program} {l : Launch} {e : Env} {R : Room} {s : State} {m : MethodId} {args : Array Value} {below : List Frame} {meth : Method} {c : Code} {G : ZG} {base z0 : Nat} {Q : Int32 → Mem → Prop} (A : ∀ d, Amb p R (s.setDrawn d) m args meth c G base z0 cX4_fill yX4_fill.cls 7 1 22) (hr : meth.sig.returnType = (some .int)) {K100 : Nat → Int32 → Mem → Prop} :
  ∀ (n : Nat) {d0 : Drawn} {H : Heap} {locs : List Loc} {cells slots : Nat} {ls : Array Slot} {x0 : Nat} {x1 : Int64} {x3 : Int64} {x5 : Int32} {x6 : Int32} {M : Mem} (ho_x0 : isO M x0 4) (hd0 : s.drawn.sameBut d0 lw_cs) (hZ : ZH G true base s.heap M H locs) (hl : lv_has ls 7 [(0, .ref (base + x0)), (1, .long x1), (3, .long x3), (5, .int x5), (6, .int x6)]) (h : wp_X4_fill_68 n x0 x1 x3 x5 x6 M Q K100) (hK100 : ∀ {d0 : Drawn} {H : Heap} {locs : List Loc} {cells slots : Nat} {ls : Array Slot} {x0 : Nat} {x5 : Int32} {M : Mem} (ho_x0 : isO M x0 4), s.drawn.sameBut d0 lw_cs → ZH G true base s.heap M H locs → lv_has ls 7 [(0, .ref (base + x0)), (5, .int x5)] → K100 x0 x5 M → W p l e R (s.setDrawn d0) m args below meth c H locs cells slots (ZEnd below G true base z0 (qI Q) args s) (F0 m 100 ls [])), W p l e R (s.setDrawn d0) m args below meth c H locs cells slots (ZEnd below G true base z0 (qI Q) args s) (F0 m 68 ls []) := by
  have hx := (A default).1
  have hb := (A default).2.1
  intro n
  induction n with
  | zero => intro d0 H locs cells slots ls x0 x1 x3 x5 x6 M ho_x0 hd0 hZ hl h hK100; exact h.elim
  | succ n ih =>
    intro d0 H locs cells slots ls x0 x1 x3 x5 x6 M ho_x0 hd0 hZ hl h hK100
    unfold wp_X4_fill_68 at h
    refine lv_iload hx hb dX4_fill_68 (lv_at hl 4 rfl) ?_
    refine lv_iload hx hb dX4_fill_70 (lv_at hl 3 rfl) ?_
    refine lv_icmp_ge (tgt := 100) hx hb dX4_fill_72 (by decide) (fun hc => ?_) (fun hc => ?_)
    · replace h := h.1 hc
      exact hK100 ho_x0 hd0 hZ (lv_sub hl [0, 3] rfl) h
    · replace h := h.2 hc
      refine lv_aload_n hx hb dX4_fill_75 rfl (lv_at hl 0 rfl) ?_
      refine z_get (A d0) hZ (ci := 4) (j := 0) ho_x0.1 ho_x0.2 (by decide) (by decide) k_fl_RX4_11 (v := .ref (base + 1)) (zv_fin (zf4 ho_x0 rfl) rfl) dX4_fill_76 ?_
      refine lv_aload_n hx hb dX4_fill_79 rfl (lv_at hl 0 rfl) ?_
      refine z_get (A d0) hZ (ci := 4) (j := 1) ho_x0.1 ho_x0.2 (by decide) (by decide) k_fl_RX4_15 (v := .int (mI M x0 1)) rfl dX4_fill_80 ?_
      refine lv_iload hx hb dX4_fill_83 (lv_at hl 4 rfl) ?_
      refine lv_iadd hx hb dX4_fill_85 ?_
      refine lv_lload_n hx hb dX4_fill_86 rfl (lv_at hl 1 rfl) ?_
      refine lv_iload hx hb dX4_fill_87 (lv_at hl 4 rfl) ?_
      refine lv_i2l hx hb dX4_fill_89 rfl ?_
      refine lv_lload_n hx hb dX4_fill_90 rfl (lv_at hl 2 rfl) ?_
      refine lv_lmul hx hb dX4_fill_91 ?_
      refine lv_ladd hx hb dX4_fill_92 ?_
      obtain ⟨hin, h⟩ := h
      obtain ⟨M1, eM1⟩ : ∃ y : Mem, y = sL M 1 ((mI M x0 1) + x6).toNatClampNeg (x1 + (x6.toInt64 * x3)) := ⟨_, rfl⟩
      refine z_last (A d0) hZ (isA_c (a := 1) hZ.k0 (by decide) rfl) hin dX4_fill_93 (fun H locs hZ => ?_)
      rw [← eM1] at hZ
      have hm : mz M1 = mz M := by rw [eM1] <;> rfl
      have ho_x0 := isO_le (Nat.le_of_eq hm.symm) ho_x0
      replace h := h M1 eM1
      obtain ⟨i2, ei2⟩ : ∃ y : Int32, y = x6 + (1 : Int32) := ⟨_, rfl⟩
      replace h := h i2 ei2
      refine lv_iinc (v := i2) (lv' := [(6, .int i2), (0, .ref (base + x0)), (1, .long x1), (3, .long x3), (5, .int x5)]) hx hb dX4_fill_94 hl (k := 4) rfl (by rw [ei2]; rfl) (by decide) rfl (fun ls hl2 => ?_)
      replace hl := hl2
      refine lv_goto (tgt := 68) hx hb dX4_fill_97 (by decide) ?_
      exact ih ho_x0 hd0 hZ (lv_sub hl [1, 2, 3, 4, 0] rfl) h hK100
set_option maxRecDepth 100000 in
set_option maxHeartbeats 4000000 in
theorem zb_X4_fill_100 {p : Program} {l : Launch} {e : Env} {R : Room} {s : State} {m : MethodId} {args : Array Value} {below : List Frame} {meth : Method} {c : Code} {G : ZG} {base z0 : Nat} {Q : Int32 → Mem → Prop} (A : ∀ d, Amb p R (s.setDrawn d) m args meth c G base z0 cX4_fill yX4_fill.cls 7 1 22) (hr : meth.sig.returnType = (some .int)) {d0 : Drawn} {H : Heap} {locs : List Loc} {cells slots : Nat} {ls : Array Slot} {x0 : Nat} {x5 : Int32} {M : Mem} (ho_x0 : isO M x0 4) (hd0 : s.drawn.sameBut d0 lw_cs) (hZ : ZH G true base s.heap M H locs) (hl : lv_has ls 7 [(0, .ref (base + x0)), (5, .int x5)]) (h : wp_X4_fill_100 x0 x5 M Q) : W p l e R (s.setDrawn d0) m args below meth c H locs cells slots (ZEnd below G true base z0 (qI Q) args s) (F0 m 100 ls []) := by
  have hx := (A d0).1
  have hb := (A d0).2.1
  unfold wp_X4_fill_100 at h
  refine lv_aload_n hx hb dX4_fill_100 rfl (lv_at hl 0 rfl) ?_
  refine lv_dup hx hb dX4_fill_101 rfl ?_
  refine z_get (A d0) hZ (ci := 4) (j := 1) ho_x0.1 ho_x0.2 (by decide) (by decide) k_fl_RX4_15 (v := .int (mI M x0 1)) rfl dX4_fill_102 ?_
  refine lv_iload hx hb dX4_fill_105 (lv_at hl 1 rfl) ?_
  refine lv_iadd hx hb dX4_fill_107 ?_
  obtain ⟨M3, eM3⟩ : ∃ y : Mem, y = sI M x0 1 ((mI M x0 1) + x5) := ⟨_, rfl⟩
  refine z_put (A d0) hZ (ci := 4) (j := 1) (M' := M3) ho_x0.1 ho_x0.2 (by decide) (by decide) k_fl_RX4_15 rfl (by rw [eM3]; exact zUpd_I) rfl rfl dX4_fill_108 (fun H locs hZ => ?_)
  have hm : mz M3 = mz M := by rw [eM3] <;> rfl
  have ho_x0 := isO_le (Nat.le_of_eq hm.symm) ho_x0
  replace h := h M3 eM3
  refine lv_aload_n hx hb dX4_fill_111 rfl (lv_at hl 0 rfl) ?_
  refine z_get (A d0) hZ (ci := 4) (j := 1) ho_x0.1 ho_x0.2 (by decide) (by decide) k_fl_RX4_15 (v := .int (mI M3 x0 1)) rfl dX4_fill_112 ?_
  exact z_iret A hd0 hZ hr ⟨_, rfl, h⟩ dX4_fill_115
set_option maxRecDepth 100000 in
set_option maxHeartbeats 4000000 in
theorem c_X4_fill (l : Launch) (G : ZG) (base : Nat) (M : Mem) (x0 : Nat) (x1 : Int64) (x3 : Int64) (x5 : Int32) (Q : Int32 → Mem → Prop) (h : wp_X4_fill x0 x1 x3 x5 M Q) : ZMet l yX4_fill cX4_fill 7 (some .int) 1 22 G true base M [.ref (base + x0), .long x1, .long x3, .int x5] (qI Q) := by
  refine z_start (by decide) (Nat.le_of_ble_eq_true rfl) k_co_yX4_fill ?_
  intro p e s m below meth c R d0 H locs cells slots ls A hr hn hd0 hZ hl
  have hx := (A d0).1
  have hb := (A d0).2.1
  have hl : lv_has ls 7 [(0, .ref (base + x0)), (1, .long x1), (3, .long x3), (5, .int x5)] := hl
  unfold wp_X4_fill at h
  obtain ⟨ho_x0, h⟩ := h
  refine lv_iload hx hb dX4_fill_0 (lv_at hl 3 rfl) ?_
  refine lv_iconst (v := (1 : Int32)) hx hb dX4_fill_2 (by decide) ?_
  refine lv_icmp_lt (tgt := 27) hx hb dX4_fill_3 (by decide) (fun hc => ?_) (fun hc => ?_)
  · replace h := h.1 hc
    exact (zb_X4_fill_27 A hr hd0 hZ (lv_sub hl [] rfl) h)
  · replace h := h.2 hc
    refine lv_lload_n hx hb dX4_fill_6 rfl (lv_at hl 2 rfl) ?_
    refine lv_lconst (v := (1 : Int64)) hx hb dX4_fill_7 (by decide) ?_
    refine z_lc_lt (tgt := 27) hx hb dX4_fill_8 dX4_fill_9 (by decide) (fun hc => ?_) (fun hc => ?_)
    · replace h := h.1 hc
      exact (zb_X4_fill_27 A hr hd0 hZ (lv_sub hl [] rfl) h)
    · replace h := h.2 hc
      refine lv_lload_n hx hb dX4_fill_12 rfl (lv_at hl 1 rfl) ?_
      refine z_callS A hd0 hZ (nA := 1) (As := [.long x1]) (c_X4_isKey l G base M x1 _ h) k_ml_RX4_70 k_st_yX4_isKey k_in_RX4 k_co_yX4_isKey (by decide +kernel) ⟨by decide, by decide⟩ rfl rfl (Nat.le_of_ble_eq_true rfl) hl dX4_fill_13 (fun v M4 H locs d0 cells slots hq hd0 hZ hm => ?_)
      clear h
      obtain ⟨i5, rfl, h⟩ := hq
      have ho_x0 := isO_le hm ho_x0
      refine lv_if_eq (tgt := 27) hx hb dX4_fill_16 (by decide) (fun hc => ?_) (fun hc => ?_)
      · replace h := h.1 hc
        exact (zb_X4_fill_27 A hr hd0 hZ (lv_sub hl [] rfl) h)
      · replace h := h.2 hc
        refine lv_aload_n hx hb dX4_fill_19 rfl (lv_at hl 0 rfl) ?_
        refine lv_lload_n hx hb dX4_fill_20 rfl (lv_at hl 1 rfl) ?_
        refine z_callV A hd0 hZ (ci := 4) (nA := 1) (As := [.long x1]) (by decide) ho_x0 (c_X4_isAboveRow l G base M4 x0 x1 _ h) k_ml_RX4_74 k_im_yX4_isAboveRow k_se_yX4_isAboveRow k_in_RX4 k_co_yX4_isAboveRow (by decide +kernel) ⟨by decide, by decide⟩ rfl rfl (Nat.le_of_ble_eq_true rfl) hl dX4_fill_21 (fun v M6 H locs d0 cells slots hq hd0 hZ hm => ?_)
        clear h
        obtain ⟨i7, rfl, h⟩ := hq
        have ho_x0 := isO_le hm ho_x0
        refine lv_if_ne (tgt := 30) hx hb dX4_fill_24 (by decide) (fun hc => ?_) (fun hc => ?_)
        · replace h := h.1 hc
          refine lv_iload hx hb dX4_fill_30 (lv_at hl 3 rfl) ?_
          refine lv_iconst (v := (1 : Int32)) hx hb dX4_fill_32 (by decide) ?_
          refine lv_isub hx hb dX4_fill_33 ?_
          refine lv_i2l hx hb dX4_fill_34 rfl ?_
          refine lv_ldc2 (v := (1000000000000 : Int64)) hx hb (A d0).2.2.2.1 ((A d0).2.2.2.2.1 _ k_lc_RX4_77) dX4_fill_35 ?_
          refine lv_lload_n hx hb dX4_fill_38 rfl (lv_at hl 1 rfl) ?_
          refine lv_lsub hx hb dX4_fill_39 ?_
          refine lv_lload_n hx hb dX4_fill_40 rfl (lv_at hl 2 rfl) ?_
          obtain ⟨hne, h⟩ := h
          refine lv_ldiv hx hb dX4_fill_41 hne ?_
          refine z_lc_le (tgt := 49) hx hb dX4_fill_42 dX4_fill_43 (by decide) (fun hc => ?_) (fun hc => ?_)
          · replace h := h.1 hc
            refine lv_iload hx hb dX4_fill_49 (lv_at hl 3 rfl) ?_
            refine lv_sipush (v := (300 : Int32)) hx hb dX4_fill_51 (by decide) ?_
            refine lv_aload_n hx hb dX4_fill_54 rfl (lv_at hl 0 rfl) ?_
            refine z_get (A d0) hZ (ci := 4) (j := 1) ho_x0.1 ho_x0.2 (by decide) (by decide) k_fl_RX4_15 (v := .int (mI M6 x0 1)) rfl dX4_fill_55 ?_
            refine lv_isub hx hb dX4_fill_58 ?_
            refine lv_icmp_le (tgt := 65) hx hb dX4_fill_59 (by decide) (fun hc => ?_) (fun hc => ?_)
            · replace h := h.1 hc
              refine lv_iconst (v := (0 : Int32)) hx hb dX4_fill_65 (by decide) ?_
              refine lv_istore (lv' := [(6, .int (0 : Int32)), (0, .ref (base + x0)), (1, .long x1), (3, .long x3), (5, .int x5)]) hx hb dX4_fill_66 hl (by decide) rfl (fun ls hl2 => ?_)
              replace hl := hl2
              exact (Exists.elim h fun kk h => zb_X4_fill_68 A hr kk ho_x0 hd0 hZ (lv_sub hl [1, 2, 3, 4, 0] rfl) h (fun ho_x0 hd0 hZ hl h => (zb_X4_fill_100 A hr ho_x0 hd0 hZ hl h)))
            · replace h := h.2 hc
              refine lv_bipush (v := (-3 : Int32)) hx hb dX4_fill_62 (by decide) ?_
              exact z_iret A hd0 hZ hr ⟨_, rfl, h⟩ dX4_fill_64
          · replace h := h.2 hc
            refine lv_bipush (v := (-2 : Int32)) hx hb dX4_fill_46 (by decide) ?_
            exact z_iret A hd0 hZ hr ⟨_, rfl, h⟩ dX4_fill_48
        · replace h := h.2 hc
          exact (zb_X4_fill_27 A hr hd0 hZ (lv_sub hl [] rfl) h)
/-! cX4_wipe -/
set_option maxRecDepth 100000 in
set_option maxHeartbeats 4000000 in
theorem c_X4_wipe (l : Launch) (G : ZG) (base : Nat) (M : Mem) (x0 : Nat) (Q : Int32 → Mem → Prop) (h : wp_X4_wipe x0 M Q) : ZMet l yX4_wipe cX4_wipe 2 (some .int) 0 0 G true base M [.ref (base + x0)] (qI Q) := by
  refine z_start (by decide) (Nat.le_of_ble_eq_true rfl) k_co_yX4_wipe ?_
  intro p e s m below meth c R d0 H locs cells slots ls A hr hn hd0 hZ hl
  have hx := (A d0).1
  have hb := (A d0).2.1
  have hl : lv_has ls 2 [(0, .ref (base + x0))] := hl
  unfold wp_X4_wipe at h
  obtain ⟨ho_x0, h⟩ := h
  refine lv_aload_n hx hb dX4_wipe_0 rfl (lv_at hl 0 rfl) ?_
  refine z_get (A d0) hZ (ci := 4) (j := 1) ho_x0.1 ho_x0.2 (by decide) (by decide) k_fl_RX4_15 (v := .int (mI M x0 1)) rfl dX4_wipe_1 ?_
  obtain ⟨i1, ei1⟩ : ∃ y : Int32, y = mI M x0 1 := ⟨_, rfl⟩
  rw [← ei1]
  replace h := h i1 ei1
  refine lv_istore_n (lv' := [(1, .int i1), (0, .ref (base + x0))]) hx hb dX4_wipe_4 rfl hl (by decide) rfl (fun ls hl2 => ?_)
  replace hl := hl2
  refine lv_aload_n hx hb dX4_wipe_5 rfl (lv_at hl 1 rfl) ?_
  refine lv_iconst (v := (0 : Int32)) hx hb dX4_wipe_6 (by decide) ?_
  obtain ⟨M2, eM2⟩ : ∃ y : Mem, y = sI M x0 1 (0 : Int32) := ⟨_, rfl⟩
  refine z_put (A d0) hZ (ci := 4) (j := 1) (M' := M2) ho_x0.1 ho_x0.2 (by decide) (by decide) k_fl_RX4_15 rfl (by rw [eM2]; exact zUpd_I) rfl rfl dX4_wipe_7 (fun H locs hZ => ?_)
  have hm : mz M2 = mz M := by rw [eM2] <;> rfl
  have ho_x0 := isO_le (Nat.le_of_eq hm.symm) ho_x0
  replace h := h M2 eM2
  refine lv_iload_n hx hb dX4_wipe_10 rfl (lv_at hl 0 rfl) ?_
  exact z_iret A hd0 hZ hr ⟨_, rfl, h⟩ dX4_wipe_11
/-! cX4_isMargin -/
set_option maxRecDepth 100000 in
set_option maxHeartbeats 4000000 in
theorem zb_X4_isMargin_15 {p : Program} {l : Launch} {e : Env} {R : Room} {s : State} {m : MethodId} {args : Array Value} {below : List Frame} {meth : Method} {c : Code} {G : ZG} {base z0 : Nat} {Q : Int32 → Mem → Prop} (A : ∀ d, Amb p R (s.setDrawn d) m args meth c G base z0 cX4_isMargin yX4_isMargin.cls 1 0 0) (hr : meth.sig.returnType = (some .boolean)) {d0 : Drawn} {H : Heap} {locs : List Loc} {cells slots : Nat} {ls : Array Slot} {t0 : Int32} {M : Mem} (hd0 : s.drawn.sameBut d0 lw_cs) (hZ : ZH G true base s.heap M H locs) (hl : lv_has ls 1 []) (h : wp_X4_isMargin_15 t0 M Q) : W p l e R (s.setDrawn d0) m args below meth c H locs cells slots (ZEnd below G true base z0 (qI Q) args s) (F0 m 15 ls [.int t0]) := by
  have hx := (A d0).1
  have hb := (A d0).2.1
  unfold wp_X4_isMargin_15 at h
  exact z_zret A hd0 hZ hr h.1 ⟨_, rfl, h.2⟩ dX4_isMargin_15
set_option maxRecDepth 100000 in
set_option maxHeartbeats 4000000 in
theorem zb_X4_isMargin_14 {p : Program} {l : Launch} {e : Env} {R : Room} {s : State} {m : MethodId} {args : Array Value} {below : List Frame} {meth : Method} {c : Code} {G : ZG} {base z0 : Nat} {Q : Int32 → Mem → Prop} (A : ∀ d, Amb p R (s.setDrawn d) m args meth c G base z0 cX4_isMargin yX4_isMargin.cls 1 0 0) (hr : meth.sig.returnType = (some .boolean)) {d0 : Drawn} {H : Heap} {locs : List Loc} {cells slots : Nat} {ls : Array Slot}  {M : Mem} (hd0 : s.drawn.sameBut d0 lw_cs) (hZ : ZH G true base s.heap M H locs) (hl : lv_has ls 1 []) (h : wp_X4_isMargin_14 M Q) : W p l e R (s.setDrawn d0) m args below meth c H locs cells slots (ZEnd below G true base z0 (qI Q) args s) (F0 m 14 ls []) := by
  have hx := (A d0).1
  have hb := (A d0).2.1
  unfold wp_X4_isMargin_14 at h
  refine lv_iconst (v := (0 : Int32)) hx hb dX4_isMargin_14 (by decide) ?_
  exact (zb_X4_isMargin_15 A hr hd0 hZ (lv_sub hl [] rfl) h)
set_option maxRecDepth 100000 in
set_option maxHeartbeats 4000000 in
theorem c_X4_isMargin (l : Launch) (G : ZG) (base : Nat) (M : Mem) (x0 : Int32) (Q : Int32 → Mem → Prop) (h : wp_X4_isMargin x0 M Q) : ZMet l yX4_isMargin cX4_isMargin 1 (some .boolean) 0 0 G true base M [.int x0] (qI Q) := by
  refine z_start (by decide) (Nat.le_of_ble_eq_true rfl) k_co_yX4_isMargin ?_
  intro p e s m below meth c R d0 H locs cells slots ls A hr hn hd0 hZ hl
  have hx := (A d0).1
  have hb := (A d0).2.1
  have hl : lv_has ls 1 [(0, .int x0)] := hl
  unfold wp_X4_isMargin at h
  refine lv_iload_n hx hb dX4_isMargin_0 rfl (lv_at hl 0 rfl) ?_
  refine lv_if_lt (tgt := 14) hx hb dX4_isMargin_1 (by decide) (fun hc => ?_) (fun hc => ?_)
  · replace h := h.1 hc
    exact (zb_X4_isMargin_14 A hr hd0 hZ (lv_sub hl [] rfl) h)
  · replace h := h.2 hc
    refine lv_iload_n hx hb dX4_isMargin_4 rfl (lv_at hl 0 rfl) ?_
    refine lv_bipush (v := (40 : Int32)) hx hb dX4_isMargin_5 (by decide) ?_
    refine lv_icmp_gt (tgt := 14) hx hb dX4_isMargin_7 (by decide) (fun hc => ?_) (fun hc => ?_)
    · replace h := h.1 hc
      exact (zb_X4_isMargin_14 A hr hd0 hZ (lv_sub hl [] rfl) h)
    · replace h := h.2 hc
      refine lv_iconst (v := (1 : Int32)) hx hb dX4_isMargin_10 (by decide) ?_
      refine lv_goto (tgt := 15) hx hb dX4_isMargin_11 (by decide) ?_
      exact (zb_X4_isMargin_15 A hr hd0 hZ (lv_sub hl [] rfl) h)
/-! cX4_margin -/
set_option maxRecDepth 100000 in
set_option maxHeartbeats 4000000 in
theorem c_X4_margin (l : Launch) (G : ZG) (base : Nat) (M : Mem) (x0 : Nat) (x1 : Int32) (Q : Int32 → Mem → Prop) (h : wp_X4_margin x0 x1 M Q) : ZMet l yX4_margin cX4_margin 3 (some .int) 1 20 G true base M [.ref (base + x0), .int x1] (qI Q) := by
  refine z_start (by decide) (Nat.le_of_ble_eq_true rfl) k_co_yX4_margin ?_
  intro p e s m below meth c R d0 H locs cells slots ls A hr hn hd0 hZ hl
  have hx := (A d0).1
  have hb := (A d0).2.1
  have hl : lv_has ls 3 [(0, .ref (base + x0)), (1, .int x1)] := hl
  unfold wp_X4_margin at h
  obtain ⟨ho_x0, h⟩ := h
  refine lv_iload_n hx hb dX4_margin_0 rfl (lv_at hl 1 rfl) ?_
  refine z_callS A hd0 hZ (nA := 1) (As := [.int x1]) (c_X4_isMargin l G base M x1 _ h) k_ml_RX4_79 k_st_yX4_isMargin k_in_RX4 k_co_yX4_isMargin (by decide +kernel) ⟨by decide, by decide⟩ rfl rfl (Nat.le_of_ble_eq_true rfl) hl dX4_margin_1 (fun v M1 H locs d0 cells slots hq hd0 hZ hm => ?_)
  clear h
  obtain ⟨i2, rfl, h⟩ := hq
  have ho_x0 := isO_le hm ho_x0
  refine lv_if_ne (tgt := 10) hx hb dX4_margin_4 (by decide) (fun hc => ?_) (fun hc => ?_)
  · replace h := h.1 hc
    refine lv_aload_n hx hb dX4_margin_10 rfl (lv_at hl 0 rfl) ?_
    refine z_get (A d0) hZ (ci := 4) (j := 2) ho_x0.1 ho_x0.2 (by decide) (by decide) k_fl_RX4_19 (v := .int (mI M1 x0 2)) rfl dX4_margin_11 ?_
    obtain ⟨i3, ei3⟩ : ∃ y : Int32, y = mI M1 x0 2 := ⟨_, rfl⟩
    rw [← ei3]
    replace h := h i3 ei3
    refine lv_istore_n (lv' := [(2, .int i3), (0, .ref (base + x0)), (1, .int x1)]) hx hb dX4_margin_14 rfl hl (by decide) rfl (fun ls hl2 => ?_)
    replace hl := hl2
    refine lv_aload_n hx hb dX4_margin_15 rfl (lv_at hl 1 rfl) ?_
    refine lv_iload_n hx hb dX4_margin_16 rfl (lv_at hl 2 rfl) ?_
    obtain ⟨M4, eM4⟩ : ∃ y : Mem, y = sI M1 x0 2 x1 := ⟨_, rfl⟩
    refine z_put (A d0) hZ (ci := 4) (j := 2) (M' := M4) ho_x0.1 ho_x0.2 (by decide) (by decide) k_fl_RX4_19 rfl (by rw [eM4]; exact zUpd_I) rfl rfl dX4_margin_17 (fun H locs hZ => ?_)
    have hm : mz M4 = mz M1 := by rw [eM4] <;> rfl
    have ho_x0 := isO_le (Nat.le_of_eq hm.symm) ho_x0
    replace h := h M4 eM4
    refine lv_iload_n hx hb dX4_margin_20 rfl (lv_at hl 0 rfl) ?_
    exact z_iret A hd0 hZ hr ⟨_, rfl, h⟩ dX4_margin_21
  · replace h := h.2 hc
    refine lv_bipush (v := (-2 : Int32)) hx hb dX4_margin_7 (by decide) ?_
    exact z_iret A hd0 hZ hr ⟨_, rfl, h⟩ dX4_margin_9
