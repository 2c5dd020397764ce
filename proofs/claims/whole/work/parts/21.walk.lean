/-! cX1_tellLine -/
set_option maxRecDepth 100000 in
set_option maxHeartbeats 4000000 in
theorem zb_X1_tellLine_41 {p : Program} {l : Launch} {e : Env} {R : Room} {s : State} {m : MethodId} {args : Array Value} {below : List Frame} {meth : Method} {c : Code} {G : ZG} {base z0 : Nat} {Q : Mem → Prop} (A : ∀ d, Amb p R (s.setDrawn d) m args meth c G base z0 cX1_tellLine yX1_tellLine.cls 9 1 30) (hr : meth.sig.returnType = none) {d0 : Drawn} {H : Heap} {locs : List Loc} {cells slots : Nat} {ls : Array Slot}  {M : Mem} (hd0 : s.drawn.sameBut d0 lw_cs) (hZ : ZH G true base s.heap M H locs) (hl : lv_has ls 9 []) (h : wp_X1_tellLine_41 M Q) : W p l e R (s.setDrawn d0) m args below meth c H locs cells slots (ZEnd below G true base z0 (qV Q) args s) (F0 m 41 ls []) := by
  have hx := (A d0).1
  have hb := (A d0).2.1
  unfold wp_X1_tellLine_41 at h
  exact z_vret A hd0 hZ hr ⟨rfl, h⟩ dX1_tellLine_41
set_option maxRecDepth 100000 in
set_option maxHeartbeats 4000000 in
theorem c_X1_tellLine (l : Launch) (G : ZG) (base : Nat) (M : Mem) (x0 : Nat) (x1 : Option Nat) (x2 : Option Nat) (x3 : Int32) (x4 : Int32) (Q : Mem → Prop) (h : wp_X1_tellLine x0 x1 x2 x3 x4 M Q) : ZMet l yX1_tellLine cX1_tellLine 9 none 1 30 G true base M [.ref (base + x0), vr base x1, vr base x2, .int x3, .int x4] (qV Q) := by
  refine z_start (by decide) (by simp [lg_sl, cat_vr, cat_r, cat_i, cat_l, cat_d]) k_co_yX1_tellLine ?_
  intro p e s m below meth c R d0 H locs cells slots ls A hr hn hd0 hZ hl
  have hx := (A d0).1
  have hb := (A d0).2.1
  have hl : lv_has ls 9 [(0, .ref (base + x0)), (1, vr base x1), (2, vr base x2), (3, .int x3), (4, .int x4)] := by simpa [lv_args, cat_vr, cat_r, cat_i, cat_l, cat_d] using hl
  unfold wp_X1_tellLine at h
  obtain ⟨ho_x0, h⟩ := h
  refine lv_aload_n hx hb dX1_tellLine_0 rfl (lv_at hl 0 rfl) ?_
  refine z_get (A d0) hZ (ci := 1) (j := 2) ho_x0.1 ho_x0.2 (by decide) (by decide) k_fl_RX1_18 (v := .long (mL M x0 2)) rfl dX1_tellLine_1 ?_
  refine lv_aload_n hx hb dX1_tellLine_4 rfl (lv_at hl 0 rfl) ?_
  refine z_get (A d0) hZ (ci := 1) (j := 3) ho_x0.1 ho_x0.2 (by decide) (by decide) k_fl_RX1_21 (v := .long (mL M x0 3)) rfl dX1_tellLine_5 ?_
  refine z_callS A hd0 hZ (nA := 2) (As := [.long (mL M x0 2), .long (mL M x0 3)]) (c_X1_commonDivisor l G base M (mL M x0 2) (mL M x0 3) _ h) k_ml_RX1_43 k_st_yX1_commonDivisor k_in_RX1 k_co_yX1_commonDivisor (by decide +kernel) ⟨by decide, by decide⟩ rfl rfl (Nat.le_of_ble_eq_true rfl) hl dX1_tellLine_8 (fun v M1 H locs d0 cells slots hq hd0 hZ hm => ?_)
  clear h
  obtain ⟨j2, rfl, h⟩ := hq
  have ho_x0 := isO_le hm ho_x0
  refine lv_lstore (lv' := [(5, .long j2), (0, .ref (base + x0)), (1, vr base x1), (2, vr base x2), (3, .int x3), (4, .int x4)]) hx hb dX1_tellLine_11 hl (by decide) rfl (fun ls hl2 => ?_)
  replace hl := hl2
  refine lv_lload hx hb dX1_tellLine_13 (lv_at hl 0 rfl) ?_
  refine lv_lconst (v := (1 : Int64)) hx hb dX1_tellLine_15 (by decide) ?_
  refine z_lc_lt (tgt := 41) hx hb dX1_tellLine_16 dX1_tellLine_17 (by decide) (fun hc => ?_) (fun hc => ?_)
  · replace h := h.1 hc
    exact (zb_X1_tellLine_41 A hr hd0 hZ (lv_sub hl [] rfl) h)
  · replace h := h.2 hc
    refine lv_iload_n hx hb dX1_tellLine_20 rfl (lv_at hl 4 rfl) ?_
    refine lv_if_lt (tgt := 41) hx hb dX1_tellLine_21 (by decide) (fun hc => ?_) (fun hc => ?_)
    · replace h := h.1 hc
      exact (zb_X1_tellLine_41 A hr hd0 hZ (lv_sub hl [] rfl) h)
    · replace h := h.2 hc
      refine lv_aload_n hx hb dX1_tellLine_24 rfl (lv_at hl 1 rfl) ?_
      refine z_get (A d0) hZ (ci := 1) (j := 4) ho_x0.1 ho_x0.2 (by decide) (by decide) k_fl_RX1_24 (v := .int (mI M1 x0 4)) rfl dX1_tellLine_25 ?_
      refine lv_iload_n hx hb dX1_tellLine_28 rfl (lv_at hl 4 rfl) ?_
      refine lv_icmp_lt (tgt := 41) hx hb dX1_tellLine_29 (by decide) (fun hc => ?_) (fun hc => ?_)
      · replace h := h.1 hc
        exact (zb_X1_tellLine_41 A hr hd0 hZ (lv_sub hl [] rfl) h)
      · replace h := h.2 hc
        refine lv_aload_n hx hb dX1_tellLine_32 rfl (lv_at hl 1 rfl) ?_
        refine z_get (A d0) hZ (ci := 1) (j := 4) ho_x0.1 ho_x0.2 (by decide) (by decide) k_fl_RX1_24 (v := .int (mI M1 x0 4)) rfl dX1_tellLine_33 ?_
        refine z_aload_n (base := base) hx hb dX1_tellLine_36 rfl (lv_at hl 3 rfl) ?_
        obtain ⟨a3, rfl, ho_a3, h⟩ := h
        refine z_alen (A d0) hZ ho_a3 1 rfl dX1_tellLine_37 ?_
        refine lv_icmp_lt (tgt := 42) hx hb dX1_tellLine_38 (by decide) (fun hc => ?_) (fun hc => ?_)
        · replace h := h.1 hc
          refine z_aload_n (base := base) hx hb dX1_tellLine_42 rfl (lv_at hl 2 rfl) ?_
          refine lv_aload_n hx hb dX1_tellLine_43 rfl (lv_at hl 1 rfl) ?_
          refine z_get (A d0) hZ (ci := 1) (j := 2) ho_x0.1 ho_x0.2 (by decide) (by decide) k_fl_RX1_18 (v := .long (mL M1 x0 2)) rfl dX1_tellLine_44 ?_
          refine lv_lload hx hb dX1_tellLine_47 (lv_at hl 0 rfl) ?_
          obtain ⟨hne, h⟩ := h
          refine lv_ldiv hx hb dX1_tellLine_49 hne ?_
          obtain ⟨a4, rfl, ho_a4, h⟩ := h
          obtain ⟨M5, eM5⟩ : ∃ y : Mem, y = sL M1 a4 6 ((mL M1 x0 2) / j2) := ⟨_, rfl⟩
          refine z_putN (A d0) hZ (ci := 0) (j := 6) (M' := M5) ho_a4.1 ho_a4.2 (by decide) (by decide) k_fn_RX1_47 rfl (by rw [eM5]; exact zUpd_L) rfl rfl dX1_tellLine_50 (fun H locs hZ => ?_)
          have hm : mz M5 = mz M1 := by rw [eM5] <;> rfl
          have ho_x0 := isO_le (Nat.le_of_eq hm.symm) ho_x0
          have ho_a4 := isO_le (Nat.le_of_eq hm.symm) ho_a4
          have ho_a3 := isA_le (Nat.le_of_eq hm.symm) ho_a3
          replace h := h M5 eM5
          refine lv_aload_n hx hb dX1_tellLine_53 rfl (lv_at hl 2 rfl) ?_
          refine lv_aload_n hx hb dX1_tellLine_54 rfl (lv_at hl 1 rfl) ?_
          refine z_get (A d0) hZ (ci := 1) (j := 3) ho_x0.1 ho_x0.2 (by decide) (by decide) k_fl_RX1_21 (v := .long (mL M5 x0 3)) rfl dX1_tellLine_55 ?_
          refine lv_lload hx hb dX1_tellLine_58 (lv_at hl 0 rfl) ?_
          obtain ⟨hne, h⟩ := h
          refine lv_ldiv hx hb dX1_tellLine_60 hne ?_
          obtain ⟨M6, eM6⟩ : ∃ y : Mem, y = sL M5 a4 7 ((mL M5 x0 3) / j2) := ⟨_, rfl⟩
          refine z_putN (A d0) hZ (ci := 0) (j := 7) (M' := M6) ho_a4.1 ho_a4.2 (by decide) (by decide) k_fn_RX1_52 rfl (by rw [eM6]; exact zUpd_L) rfl rfl dX1_tellLine_61 (fun H locs hZ => ?_)
          have hm : mz M6 = mz M5 := by rw [eM6] <;> rfl
          have ho_x0 := isO_le (Nat.le_of_eq hm.symm) ho_x0
          have ho_a4 := isO_le (Nat.le_of_eq hm.symm) ho_a4
          have ho_a3 := isA_le (Nat.le_of_eq hm.symm) ho_a3
          replace h := h M6 eM6
          refine lv_aload_n hx hb dX1_tellLine_64 rfl (lv_at hl 1 rfl) ?_
          refine z_get (A d0) hZ (ci := 1) (j := 4) ho_x0.1 ho_x0.2 (by decide) (by decide) k_fl_RX1_24 (v := .int (mI M6 x0 4)) rfl dX1_tellLine_65 ?_
          refine lv_iload_n hx hb dX1_tellLine_68 rfl (lv_at hl 4 rfl) ?_
          refine lv_isub hx hb dX1_tellLine_69 ?_
          refine lv_i2l hx hb dX1_tellLine_70 rfl ?_
          obtain ⟨j7, ej7⟩ : ∃ y : Int64, y = ((mI M6 x0 4) - x3).toInt64 := ⟨_, rfl⟩
          rw [← ej7]
          replace h := h j7 ej7
          refine lv_lstore (lv' := [(7, .long j7), (5, .long j2), (0, .ref (base + x0)), (1, .ref (base + a4)), (2, .ref (base + a3)), (3, .int x3), (4, .int x4)]) hx hb dX1_tellLine_71 hl (by decide) rfl (fun ls hl2 => ?_)
          replace hl := hl2
          refine lv_aload_n hx hb dX1_tellLine_73 rfl (lv_at hl 3 rfl) ?_
          refine lv_aload_n hx hb dX1_tellLine_74 rfl (lv_at hl 3 rfl) ?_
          refine z_getN (A d0) hZ (ci := 0) (j := 7) ho_a4.1 ho_a4.2 (by decide) (by decide) k_fn_RX1_52 (v := .long (mL M6 a4 7)) rfl dX1_tellLine_75 ?_
          refine lv_lload hx hb dX1_tellLine_78 (lv_at hl 0 rfl) ?_
          refine lv_iload hx hb dX1_tellLine_80 (lv_at hl 6 rfl) ?_
          refine lv_i2l hx hb dX1_tellLine_82 rfl ?_
          refine lv_lsub hx hb dX1_tellLine_83 ?_
          refine lv_lmul hx hb dX1_tellLine_84 ?_
          refine lv_aload_n hx hb dX1_tellLine_85 rfl (lv_at hl 3 rfl) ?_
          refine z_getN (A d0) hZ (ci := 0) (j := 6) ho_a4.1 ho_a4.2 (by decide) (by decide) k_fn_RX1_47 (v := .long (mL M6 a4 6)) rfl dX1_tellLine_86 ?_
          refine lv_aload_n hx hb dX1_tellLine_89 rfl (lv_at hl 4 rfl) ?_
          refine lv_aload_n hx hb dX1_tellLine_90 rfl (lv_at hl 2 rfl) ?_
          refine z_get (A d0) hZ (ci := 1) (j := 4) ho_x0.1 ho_x0.2 (by decide) (by decide) k_fl_RX1_24 (v := .int (mI M6 x0 4)) rfl dX1_tellLine_91 ?_
          obtain ⟨hin, h⟩ := h
          refine z_lald (A d0) hZ ho_a3 hin dX1_tellLine_94 ?_
          refine lv_aload_n hx hb dX1_tellLine_95 rfl (lv_at hl 4 rfl) ?_
          refine lv_iload_n hx hb dX1_tellLine_96 rfl (lv_at hl 5 rfl) ?_
          obtain ⟨hin, h⟩ := h
          refine z_lald (A d0) hZ ho_a3 hin dX1_tellLine_97 ?_
          refine lv_lsub hx hb dX1_tellLine_98 ?_
          refine lv_lmul hx hb dX1_tellLine_99 ?_
          refine lv_lsub hx hb dX1_tellLine_100 ?_
          obtain ⟨M8, eM8⟩ : ∃ y : Mem, y = sL M6 a4 8 (((mL M6 a4 7) * (j7 - x4.toInt64)) - ((mL M6 a4 6) * ((mL M6 a3 (mI M6 x0 4).toNatClampNeg) - (mL M6 a3 x3.toNatClampNeg)))) := ⟨_, rfl⟩
          refine z_putN (A d0) hZ (ci := 0) (j := 8) (M' := M8) ho_a4.1 ho_a4.2 (by decide) (by decide) k_fn_RX1_55 rfl (by rw [eM8]; exact zUpd_L) rfl rfl dX1_tellLine_101 (fun H locs hZ => ?_)
          have hm : mz M8 = mz M6 := by rw [eM8] <;> rfl
          have ho_x0 := isO_le (Nat.le_of_eq hm.symm) ho_x0
          have ho_a4 := isO_le (Nat.le_of_eq hm.symm) ho_a4
          have ho_a3 := isA_le (Nat.le_of_eq hm.symm) ho_a3
          replace h := h M8 eM8
          exact z_vret A hd0 hZ hr ⟨rfl, h⟩ dX1_tellLine_104
        · replace h := h.2 hc
          exact (zb_X1_tellLine_41 A hr hd0 hZ (lv_sub hl [] rfl) h)
/-! cX2_init -/
set_option maxRecDepth 100000 in
set_option maxHeartbeats 4000000 in
theorem zb_X2_init_74 {p : Program} {l : Launch} {e : Env} {R : Room} {s : State} {m : MethodId} {args : Array Value} {below : List Frame} {meth : Method} {c : Code} {G : ZG} {base z0 : Nat} {Q : Mem → Prop} (A : ∀ d, Amb p R (s.setDrawn d) m args meth c G base z0 cX2_init yX2_init.cls 3 1 12) (hr : meth.sig.returnType = none) (hn : meth.name = "<init>") {d0 : Drawn} {H : Heap} {locs : List Loc} {cells slots : Nat} {ls : Array Slot} {t0 : Int32} {t1 : Nat} {M : Mem} (ho_t1 : isO M t1 2) (hd0 : s.drawn.sameBut d0 lw_cs) (hZ : ZH G false base s.heap M H locs) (hl : lv_has ls 3 []) (h : wp_X2_init_74 t0 t1 M Q) : W p l e R (s.setDrawn d0) m args below meth c H locs cells slots (ZEnd below G false base z0 (qV Q) args s) (F0 m 74 ls [.int t0, .ref (base + t1)]) := by
  have hx := (A d0).1
  have hb := (A d0).2.1
  unfold wp_X2_init_74 at h
  obtain ⟨hn0, hlt, hs, hby, h⟩ := h
  obtain ⟨M11, eM11⟩ : ∃ y : Mem, y = nw M := ⟨_, rfl⟩
  obtain ⟨a10, ea10⟩ : ∃ y : Nat, y = mz M := ⟨_, rfl⟩
  have ho_a10 : isA M11 a10 (.object "LeaningIndex$Piece") := ⟨⟨_, by rw [ea10]; exact hs⟩, by rw [eM11, ea10]; exact Nat.lt_succ_self _⟩
  refine z_newq (A d0) hZ ea10 3 rfl hs hlt k_cl_RX2_32 k_ao_RX0 (fun _ q => by cases q) hn0 rfl (Nat.le_trans (Nat.mul_le_mul_left _ (by decide)) hby) dX2_init_74 (fun H cells slots hZ => ?_)
  rw [← eM11] at hZ
  have hm : mz M ≤ mz M11 := by rw [eM11]; exact Nat.le_succ _
  have ho_t1 := isO_le hm ho_t1
  replace h := h a10 M11 ea10 eM11
  obtain ⟨M12, eM12⟩ : ∃ y : Mem, y = sR M11 t1 3 (some a10) := ⟨_, rfl⟩
  refine z_putF (A d0) hZ (ci := 2) (j := 3) (M' := M12) ho_t1.1 ho_t1.2 (by decide) (by decide) k_fl_RX2_34 rfl rfl hn (by rw [eM12]; exact zUpd_A (fun q => (by cases q))) rfl rfl dX2_init_77 (fun H locs hZ => ?_)
  have hm : mz M12 = mz M11 := by rw [eM12] <;> rfl
  replace h := h M12 eM12
  exact z_vret A hd0 hZ hr ⟨rfl, h⟩ dX2_init_80
set_option maxRecDepth 100000 in
set_option maxHeartbeats 4000000 in
theorem zb_X2_init_59 {p : Program} {l : Launch} {e : Env} {R : Room} {s : State} {m : MethodId} {args : Array Value} {below : List Frame} {meth : Method} {c : Code} {G : ZG} {base z0 : Nat} {Q : Mem → Prop} (A : ∀ d, Amb p R (s.setDrawn d) m args meth c G base z0 cX2_init yX2_init.cls 3 1 12) (hr : meth.sig.returnType = none) (hn : meth.name = "<init>") {d0 : Drawn} {H : Heap} {locs : List Loc} {cells slots : Nat} {ls : Array Slot} {x0 : Nat} {x1 : Int32} {t0 : Int32} {t1 : Nat} {M : Mem} (ho_x0 : isO M x0 2) (ho_t1 : isO M t1 2) (hd0 : s.drawn.sameBut d0 lw_cs) (hZ : ZH G false base s.heap M H locs) (hl : lv_has ls 3 [(0, .ref (base + x0)), (1, .int x1)]) (h : wp_X2_init_59 x0 x1 t0 t1 M Q) : W p l e R (s.setDrawn d0) m args below meth c H locs cells slots (ZEnd below G false base z0 (qV Q) args s) (F0 m 59 ls [.int t0, .ref (base + t1)]) := by
  have hx := (A d0).1
  have hb := (A d0).2.1
  unfold wp_X2_init_59 at h
  obtain ⟨hn0, hlt, hs, hby, h⟩ := h
  obtain ⟨M8, eM8⟩ : ∃ y : Mem, y = nw M := ⟨_, rfl⟩
  obtain ⟨a7, ea7⟩ : ∃ y : Nat, y = mz M := ⟨_, rfl⟩
  have ho_a7 : isA M8 a7 .long := ⟨⟨_, by rw [ea7]; exact hs⟩, by rw [eM8, ea7]; exact Nat.lt_succ_self _⟩
  refine z_newa (t := .long) (A d0) hZ ea7 rfl 1 rfl (Or.inr (Or.inl rfl)) hs hlt k_ac_long (fun _ q => by cases q) hn0 rfl (Nat.le_trans (Nat.mul_le_mul_left _ (by decide)) hby) dX2_init_59 (fun H cells slots hZ => ?_)
  rw [← eM8] at hZ
  have hm : mz M ≤ mz M8 := by rw [eM8]; exact Nat.le_succ _
  have ho_x0 := isO_le hm ho_x0
  have ho_t1 := isO_le hm ho_t1
  replace h := h a7 M8 ea7 eM8
  obtain ⟨M9, eM9⟩ : ∃ y : Mem, y = sR M8 t1 2 (some a7) := ⟨_, rfl⟩
  refine z_putF (A d0) hZ (ci := 2) (j := 2) (M' := M9) ho_t1.1 ho_t1.2 (by decide) (by decide) k_fl_RX2_29 rfl rfl hn (by rw [eM9]; exact zUpd_A (fun q => (by cases q))) rfl rfl dX2_init_61 (fun H locs hZ => ?_)
  have hm : mz M9 = mz M8 := by rw [eM9] <;> rfl
  have ho_x0 := isO_le (Nat.le_of_eq hm.symm) ho_x0
  replace h := h M9 eM9
  refine lv_aload_n hx hb dX2_init_64 rfl (lv_at hl 0 rfl) ?_
  refine lv_iload_n hx hb dX2_init_65 rfl (lv_at hl 1 rfl) ?_
  refine lv_if_le (tgt := 73) hx hb dX2_init_66 (by decide) (fun hc => ?_) (fun hc => ?_)
  · replace h := h.1 hc
    refine lv_iconst (v := (0 : Int32)) hx hb dX2_init_73 (by decide) ?_
    exact (zb_X2_init_74 A hr hn ho_x0 hd0 hZ (lv_sub hl [] rfl) h)
  · replace h := h.2 hc
    refine lv_iload_n hx hb dX2_init_69 rfl (lv_at hl 1 rfl) ?_
    refine lv_goto (tgt := 74) hx hb dX2_init_70 (by decide) ?_
    exact (zb_X2_init_74 A hr hn ho_x0 hd0 hZ (lv_sub hl [] rfl) h)
set_option maxRecDepth 100000 in
set_option maxHeartbeats 4000000 in
theorem zb_X2_init_44 {p : Program} {l : Launch} {e : Env} {R : Room} {s : State} {m : MethodId} {args : Array Value} {below : List Frame} {meth : Method} {c : Code} {G : ZG} {base z0 : Nat} {Q : Mem → Prop} (A : ∀ d, Amb p R (s.setDrawn d) m args meth c G base z0 cX2_init yX2_init.cls 3 1 12) (hr : meth.sig.returnType = none) (hn : meth.name = "<init>") {d0 : Drawn} {H : Heap} {locs : List Loc} {cells slots : Nat} {ls : Array Slot} {x0 : Nat} {x1 : Int32} {x2 : Int32} {t0 : Int32} {t1 : Nat} {M : Mem} (ho_x0 : isO M x0 2) (ho_t1 : isO M t1 2) (hd0 : s.drawn.sameBut d0 lw_cs) (hZ : ZH G false base s.heap M H locs) (hl : lv_has ls 3 [(0, .ref (base + x0)), (1, .int x1), (2, .int x2)]) (h : wp_X2_init_44 x0 x1 x2 t0 t1 M Q) : W p l e R (s.setDrawn d0) m args below meth c H locs cells slots (ZEnd below G false base z0 (qV Q) args s) (F0 m 44 ls [.int t0, .ref (base + t1)]) := by
  have hx := (A d0).1
  have hb := (A d0).2.1
  unfold wp_X2_init_44 at h
  obtain ⟨hn0, hlt, hs, hby, h⟩ := h
  obtain ⟨M5, eM5⟩ : ∃ y : Mem, y = nw M := ⟨_, rfl⟩
  obtain ⟨a4, ea4⟩ : ∃ y : Nat, y = mz M := ⟨_, rfl⟩
  have ho_a4 : isA M5 a4 .boolean := ⟨⟨_, by rw [ea4]; exact hs⟩, by rw [eM5, ea4]; exact Nat.lt_succ_self _⟩
  refine z_newa (t := .boolean) (A d0) hZ ea4 rfl 2 rfl (Or.inr (Or.inr rfl)) hs hlt k_ac_boolean (fun _ q => by cases q) hn0 rfl (Nat.le_trans (Nat.mul_le_mul_left _ (by decide)) hby) dX2_init_44 (fun H cells slots hZ => ?_)
  rw [← eM5] at hZ
  have hm : mz M ≤ mz M5 := by rw [eM5]; exact Nat.le_succ _
  have ho_x0 := isO_le hm ho_x0
  have ho_t1 := isO_le hm ho_t1
  replace h := h a4 M5 ea4 eM5
  obtain ⟨M6, eM6⟩ : ∃ y : Mem, y = sR M5 t1 1 (some a4) := ⟨_, rfl⟩
  refine z_putF (A d0) hZ (ci := 2) (j := 1) (M' := M6) ho_t1.1 ho_t1.2 (by decide) (by decide) k_fl_RX2_25 rfl rfl hn (by rw [eM6]; exact zUpd_A (fun q => (by cases q))) rfl rfl dX2_init_46 (fun H locs hZ => ?_)
  have hm : mz M6 = mz M5 := by rw [eM6] <;> rfl
  have ho_x0 := isO_le (Nat.le_of_eq hm.symm) ho_x0
  replace h := h M6 eM6
  refine lv_aload_n hx hb dX2_init_49 rfl (lv_at hl 0 rfl) ?_
  refine lv_iload_n hx hb dX2_init_50 rfl (lv_at hl 2 rfl) ?_
  refine lv_if_le (tgt := 58) hx hb dX2_init_51 (by decide) (fun hc => ?_) (fun hc => ?_)
  · replace h := h.1 hc
    refine lv_iconst (v := (0 : Int32)) hx hb dX2_init_58 (by decide) ?_
    exact (zb_X2_init_59 A hr hn ho_x0 ho_x0 hd0 hZ (lv_sub hl [0, 1] rfl) h)
  · replace h := h.2 hc
    refine lv_iload_n hx hb dX2_init_54 rfl (lv_at hl 2 rfl) ?_
    refine lv_goto (tgt := 59) hx hb dX2_init_55 (by decide) ?_
    exact (zb_X2_init_59 A hr hn ho_x0 ho_x0 hd0 hZ (lv_sub hl [0, 1] rfl) h)
set_option maxRecDepth 100000 in
set_option maxHeartbeats 4000000 in
theorem zb_X2_init_29 {p : Program} {l : Launch} {e : Env} {R : Room} {s : State} {m : MethodId} {args : Array Value} {below : List Frame} {meth : Method} {c : Code} {G : ZG} {base z0 : Nat} {Q : Mem → Prop} (A : ∀ d, Amb p R (s.setDrawn d) m args meth c G base z0 cX2_init yX2_init.cls 3 1 12) (hr : meth.sig.returnType = none) (hn : meth.name = "<init>") {d0 : Drawn} {H : Heap} {locs : List Loc} {cells slots : Nat} {ls : Array Slot} {x0 : Nat} {x1 : Int32} {x2 : Int32} {t0 : Int32} {t1 : Nat} {M : Mem} (ho_x0 : isO M x0 2) (ho_t1 : isO M t1 2) (hd0 : s.drawn.sameBut d0 lw_cs) (hZ : ZH G false base s.heap M H locs) (hl : lv_has ls 3 [(0, .ref (base + x0)), (1, .int x1), (2, .int x2)]) (h : wp_X2_init_29 x0 x1 x2 t0 t1 M Q) : W p l e R (s.setDrawn d0) m args below meth c H locs cells slots (ZEnd below G false base z0 (qV Q) args s) (F0 m 29 ls [.int t0, .ref (base + t1)]) := by
  have hx := (A d0).1
  have hb := (A d0).2.1
  unfold wp_X2_init_29 at h
  obtain ⟨hn0, hlt, hs, hby, h⟩ := h
  obtain ⟨M2, eM2⟩ : ∃ y : Mem, y = nw M := ⟨_, rfl⟩
  obtain ⟨a1, ea1⟩ : ∃ y : Nat, y = mz M := ⟨_, rfl⟩
  have ho_a1 : isA M2 a1 .long := ⟨⟨_, by rw [ea1]; exact hs⟩, by rw [eM2, ea1]; exact Nat.lt_succ_self _⟩
  refine z_newa (t := .long) (A d0) hZ ea1 rfl 1 rfl (Or.inr (Or.inl rfl)) hs hlt k_ac_long (fun _ q => by cases q) hn0 rfl (Nat.le_trans (Nat.mul_le_mul_left _ (by decide)) hby) dX2_init_29 (fun H cells slots hZ => ?_)
  rw [← eM2] at hZ
  have hm : mz M ≤ mz M2 := by rw [eM2]; exact Nat.le_succ _
  have ho_x0 := isO_le hm ho_x0
  have ho_t1 := isO_le hm ho_t1
  replace h := h a1 M2 ea1 eM2
  obtain ⟨M3, eM3⟩ : ∃ y : Mem, y = sR M2 t1 0 (some a1) := ⟨_, rfl⟩
  refine z_putF (A d0) hZ (ci := 2) (j := 0) (M' := M3) ho_t1.1 ho_t1.2 (by decide) (by decide) k_fl_RX2_21 rfl rfl hn (by rw [eM3]; exact zUpd_A (fun q => (by cases q))) rfl rfl dX2_init_31 (fun H locs hZ => ?_)
  have hm : mz M3 = mz M2 := by rw [eM3] <;> rfl
  have ho_x0 := isO_le (Nat.le_of_eq hm.symm) ho_x0
  replace h := h M3 eM3
  refine lv_aload_n hx hb dX2_init_34 rfl (lv_at hl 0 rfl) ?_
  refine lv_iload_n hx hb dX2_init_35 rfl (lv_at hl 1 rfl) ?_
  refine lv_if_le (tgt := 43) hx hb dX2_init_36 (by decide) (fun hc => ?_) (fun hc => ?_)
  · replace h := h.1 hc
    refine lv_iconst (v := (0 : Int32)) hx hb dX2_init_43 (by decide) ?_
    exact (zb_X2_init_44 A hr hn ho_x0 ho_x0 hd0 hZ (lv_sub hl [0, 1, 2] rfl) h)
  · replace h := h.2 hc
    refine lv_iload_n hx hb dX2_init_39 rfl (lv_at hl 1 rfl) ?_
    refine lv_goto (tgt := 44) hx hb dX2_init_40 (by decide) ?_
    exact (zb_X2_init_44 A hr hn ho_x0 ho_x0 hd0 hZ (lv_sub hl [0, 1, 2] rfl) h)
set_option maxRecDepth 100000 in
set_option maxHeartbeats 4000000 in
theorem c_X2_init (l : Launch) (G : ZG) (base : Nat) (M : Mem) (x0 : Nat) (x1 : Int32) (x2 : Int32) (Q : Mem → Prop) (h : wp_X2_init x0 x1 x2 M Q) : ZMet l yX2_init cX2_init 3 none 1 12 G false base M [.ref (base + x0), .int x1, .int x2] (qV Q) := by
  refine z_start (by decide) (Nat.le_of_ble_eq_true rfl) k_co_yX2_init ?_
  intro p e s m below meth c R d0 H locs cells slots ls A hr hn hd0 hZ hl
  have hx := (A d0).1
  have hb := (A d0).2.1
  have hl : lv_has ls 3 [(0, .ref (base + x0)), (1, .int x1), (2, .int x2)] := hl
  have hn : meth.name = "<init>" := hn
  unfold wp_X2_init at h
  obtain ⟨ho_x0, h⟩ := h
  refine lv_aload_n hx hb dX2_init_0 rfl (lv_at hl 0 rfl) ?_
  refine z_objInit (A d0) k_ml_RX2_3 hl dX2_init_1 (by decide) (Nat.le_of_ble_eq_true rfl) ?_
  refine lv_aload_n hx hb dX2_init_4 rfl (lv_at hl 0 rfl) ?_
  refine lv_iconst (v := (0 : Int32)) hx hb dX2_init_5 (by decide) ?_
  obtain ⟨M13, eM13⟩ : ∃ y : Mem, y = sI M x0 4 (0 : Int32) := ⟨_, rfl⟩
  refine z_put (A d0) hZ (ci := 2) (j := 4) (M' := M13) ho_x0.1 ho_x0.2 (by decide) (by decide) k_fl_RX2_9 rfl (by rw [eM13]; exact zUpd_I) rfl rfl dX2_init_6 (fun H locs hZ => ?_)
  have hm : mz M13 = mz M := by rw [eM13] <;> rfl
  have ho_x0 := isO_le (Nat.le_of_eq hm.symm) ho_x0
  replace h := h M13 eM13
  refine lv_aload_n hx hb dX2_init_9 rfl (lv_at hl 0 rfl) ?_
  refine lv_iconst (v := (0 : Int32)) hx hb dX2_init_10 (by decide) ?_
  obtain ⟨M14, eM14⟩ : ∃ y : Mem, y = sI M13 x0 5 (0 : Int32) := ⟨_, rfl⟩
  refine z_put (A d0) hZ (ci := 2) (j := 5) (M' := M14) ho_x0.1 ho_x0.2 (by decide) (by decide) k_fl_RX2_15 rfl (by rw [eM14]; exact zUpd_I) rfl rfl dX2_init_11 (fun H locs hZ => ?_)
  have hm : mz M14 = mz M13 := by rw [eM14] <;> rfl
  have ho_x0 := isO_le (Nat.le_of_eq hm.symm) ho_x0
  replace h := h M14 eM14
  refine lv_aload_n hx hb dX2_init_14 rfl (lv_at hl 0 rfl) ?_
  refine lv_iconst (v := (0 : Int32)) hx hb dX2_init_15 (by decide) ?_
  obtain ⟨M15, eM15⟩ : ∃ y : Mem, y = sI M14 x0 6 (0 : Int32) := ⟨_, rfl⟩
  refine z_put (A d0) hZ (ci := 2) (j := 6) (M' := M15) ho_x0.1 ho_x0.2 (by decide) (by decide) k_fl_RX2_18 rfl (by rw [eM15]; exact zUpd_I) rfl rfl dX2_init_16 (fun H locs hZ => ?_)
  have hm : mz M15 = mz M14 := by rw [eM15] <;> rfl
  have ho_x0 := isO_le (Nat.le_of_eq hm.symm) ho_x0
  replace h := h M15 eM15
  refine lv_aload_n hx hb dX2_init_19 rfl (lv_at hl 0 rfl) ?_
  refine lv_iload_n hx hb dX2_init_20 rfl (lv_at hl 1 rfl) ?_
  refine lv_if_le (tgt := 28) hx hb dX2_init_21 (by decide) (fun hc => ?_) (fun hc => ?_)
  · replace h := h.1 hc
    refine lv_iconst (v := (0 : Int32)) hx hb dX2_init_28 (by decide) ?_
    exact (zb_X2_init_29 A hr hn ho_x0 ho_x0 hd0 hZ (lv_sub hl [0, 1, 2] rfl) h)
  · replace h := h.2 hc
    refine lv_iload_n hx hb dX2_init_24 rfl (lv_at hl 1 rfl) ?_
    refine lv_goto (tgt := 29) hx hb dX2_init_25 (by decide) ?_
    exact (zb_X2_init_29 A hr hn ho_x0 ho_x0 hd0 hZ (lv_sub hl [0, 1, 2] rfl) h)
/-! cX2_empty -/
set_option maxRecDepth 100000 in
set_option maxHeartbeats 4000000 in
theorem c_X2_empty (l : Launch) (G : ZG) (base : Nat) (M : Mem) (x0 : Nat) (Q : Mem → Prop) (h : wp_X2_empty x0 M Q) : ZMet l yX2_empty cX2_empty 1 none 0 0 G true base M [.ref (base + x0)] (qV Q) := by
  refine z_start (by decide) (Nat.le_of_ble_eq_true rfl) k_co_yX2_empty ?_
  intro p e s m below meth c R d0 H locs cells slots ls A hr hn hd0 hZ hl
  have hx := (A d0).1
  have hb := (A d0).2.1
  have hl : lv_has ls 1 [(0, .ref (base + x0))] := hl
  unfold wp_X2_empty at h
  obtain ⟨ho_x0, h⟩ := h
  refine lv_aload_n hx hb dX2_empty_0 rfl (lv_at hl 0 rfl) ?_
  refine lv_iconst (v := (0 : Int32)) hx hb dX2_empty_1 (by decide) ?_
  obtain ⟨M1, eM1⟩ : ∃ y : Mem, y = sI M x0 4 (0 : Int32) := ⟨_, rfl⟩
  refine z_put (A d0) hZ (ci := 2) (j := 4) (M' := M1) ho_x0.1 ho_x0.2 (by decide) (by decide) k_fl_RX2_9 rfl (by rw [eM1]; exact zUpd_I) rfl rfl dX2_empty_2 (fun H locs hZ => ?_)
  have hm : mz M1 = mz M := by rw [eM1] <;> rfl
  have ho_x0 := isO_le (Nat.le_of_eq hm.symm) ho_x0
  replace h := h M1 eM1
  refine lv_aload_n hx hb dX2_empty_5 rfl (lv_at hl 0 rfl) ?_
  refine lv_iconst (v := (0 : Int32)) hx hb dX2_empty_6 (by decide) ?_
  obtain ⟨M2, eM2⟩ : ∃ y : Mem, y = sI M1 x0 5 (0 : Int32) := ⟨_, rfl⟩
  refine z_put (A d0) hZ (ci := 2) (j := 5) (M' := M2) ho_x0.1 ho_x0.2 (by decide) (by decide) k_fl_RX2_15 rfl (by rw [eM2]; exact zUpd_I) rfl rfl dX2_empty_7 (fun H locs hZ => ?_)
  have hm : mz M2 = mz M1 := by rw [eM2] <;> rfl
  have ho_x0 := isO_le (Nat.le_of_eq hm.symm) ho_x0
  replace h := h M2 eM2
  refine lv_aload_n hx hb dX2_empty_10 rfl (lv_at hl 0 rfl) ?_
  refine lv_iconst (v := (0 : Int32)) hx hb dX2_empty_11 (by decide) ?_
  obtain ⟨M3, eM3⟩ : ∃ y : Mem, y = sI M2 x0 6 (0 : Int32) := ⟨_, rfl⟩
  refine z_put (A d0) hZ (ci := 2) (j := 6) (M' := M3) ho_x0.1 ho_x0.2 (by decide) (by decide) k_fl_RX2_18 rfl (by rw [eM3]; exact zUpd_I) rfl rfl dX2_empty_12 (fun H locs hZ => ?_)
  have hm : mz M3 = mz M2 := by rw [eM3] <;> rfl
  have ho_x0 := isO_le (Nat.le_of_eq hm.symm) ho_x0
  replace h := h M3 eM3
  exact z_vret A hd0 hZ hr ⟨rfl, h⟩ dX2_empty_15
/-! cX2_isFull -/
set_option maxRecDepth 100000 in
set_option maxHeartbeats 4000000 in
theorem zb_X2_isFull_34 {p : Program} {l : Launch} {e : Env} {R : Room} {s : State} {m : MethodId} {args : Array Value} {below : List Frame} {meth : Method} {c : Code} {G : ZG} {base z0 : Nat} {Q : Int32 → Mem → Prop} (A : ∀ d, Amb p R (s.setDrawn d) m args meth c G base z0 cX2_isFull yX2_isFull.cls 1 0 0) (hr : meth.sig.returnType = (some .boolean)) {d0 : Drawn} {H : Heap} {locs : List Loc} {cells slots : Nat} {ls : Array Slot} {t0 : Int32} {M : Mem} (hd0 : s.drawn.sameBut d0 lw_cs) (hZ : ZH G true base s.heap M H locs) (hl : lv_has ls 1 []) (h : wp_X2_isFull_34 t0 M Q) : W p l e R (s.setDrawn d0) m args below meth c H locs cells slots (ZEnd below G true base z0 (qI Q) args s) (F0 m 34 ls [.int t0]) := by
  have hx := (A d0).1
  have hb := (A d0).2.1
  unfold wp_X2_isFull_34 at h
  exact z_zret A hd0 hZ hr h.1 ⟨_, rfl, h.2⟩ dX2_isFull_34
set_option maxRecDepth 100000 in
set_option maxHeartbeats 4000000 in
theorem zb_X2_isFull_29 {p : Program} {l : Launch} {e : Env} {R : Room} {s : State} {m : MethodId} {args : Array Value} {below : List Frame} {meth : Method} {c : Code} {G : ZG} {base z0 : Nat} {Q : Int32 → Mem → Prop} (A : ∀ d, Amb p R (s.setDrawn d) m args meth c G base z0 cX2_isFull yX2_isFull.cls 1 0 0) (hr : meth.sig.returnType = (some .boolean)) {d0 : Drawn} {H : Heap} {locs : List Loc} {cells slots : Nat} {ls : Array Slot}  {M : Mem} (hd0 : s.drawn.sameBut d0 lw_cs) (hZ : ZH G true base s.heap M H locs) (hl : lv_has ls 1 []) (h : wp_X2_isFull_29 M Q) : W p l e R (s.setDrawn d0) m args below meth c H locs cells slots (ZEnd below G true base z0 (qI Q) args s) (F0 m 29 ls []) := by
  have hx := (A d0).1
  have hb := (A d0).2.1
  unfold wp_X2_isFull_29 at h
  refine lv_iconst (v := (1 : Int32)) hx hb dX2_isFull_29 (by decide) ?_
  refine lv_goto (tgt := 34) hx hb dX2_isFull_30 (by decide) ?_
  exact (zb_X2_isFull_34 A hr hd0 hZ (lv_sub hl [] rfl) h)
set_option maxRecDepth 100000 in
set_option maxHeartbeats 4000000 in
theorem c_X2_isFull (l : Launch) (G : ZG) (base : Nat) (M : Mem) (x0 : Nat) (Q : Int32 → Mem → Prop) (h : wp_X2_isFull x0 M Q) : ZMet l yX2_isFull cX2_isFull 1 (some .boolean) 0 0 G true base M [.ref (base + x0)] (qI Q) := by
  refine z_start (by decide) (Nat.le_of_ble_eq_true rfl) k_co_yX2_isFull ?_
  intro p e s m below meth c R d0 H locs cells slots ls A hr hn hd0 hZ hl
  have hx := (A d0).1
  have hb := (A d0).2.1
  have hl : lv_has ls 1 [(0, .ref (base + x0))] := hl
  unfold wp_X2_isFull at h
  obtain ⟨ho_x0, h⟩ := h
  refine lv_aload_n hx hb dX2_isFull_0 rfl (lv_at hl 0 rfl) ?_
  refine z_get (A d0) hZ (ci := 2) (j := 4) ho_x0.1 ho_x0.2 (by decide) (by decide) k_fl_RX2_9 (v := .int (mI M x0 4)) rfl dX2_isFull_1 ?_
  refine lv_aload_n hx hb dX2_isFull_4 rfl (lv_at hl 0 rfl) ?_
  refine z_get (A d0) hZ (ci := 2) (j := 5) ho_x0.1 ho_x0.2 (by decide) (by decide) k_fl_RX2_15 (v := .int (mI M x0 5)) rfl dX2_isFull_5 ?_
  refine lv_iadd hx hb dX2_isFull_8 ?_
  refine lv_aload_n hx hb dX2_isFull_9 rfl (lv_at hl 0 rfl) ?_
  refine z_get (A d0) hZ (ci := 2) (j := 0) ho_x0.1 ho_x0.2 (by decide) (by decide) k_fl_RX2_21 (v := .ref (base + (x0 + 1))) (zv_fin (zf2_0 ho_x0) rfl) dX2_isFull_10 ?_
  refine z_alen (A d0) hZ (isA_T1 hZ.k0 ho_x0) 1 rfl dX2_isFull_13 ?_
  refine lv_icmp_ge (tgt := 29) hx hb dX2_isFull_14 (by decide) (fun hc => ?_) (fun hc => ?_)
  · replace h := h.1 hc
    exact (zb_X2_isFull_29 A hr hd0 hZ (lv_sub hl [] rfl) h)
  · replace h := h.2 hc
    refine lv_aload_n hx hb dX2_isFull_17 rfl (lv_at hl 0 rfl) ?_
    refine z_get (A d0) hZ (ci := 2) (j := 5) ho_x0.1 ho_x0.2 (by decide) (by decide) k_fl_RX2_15 (v := .int (mI M x0 5)) rfl dX2_isFull_18 ?_
    refine lv_aload_n hx hb dX2_isFull_21 rfl (lv_at hl 0 rfl) ?_
    refine z_get (A d0) hZ (ci := 2) (j := 2) ho_x0.1 ho_x0.2 (by decide) (by decide) k_fl_RX2_29 (v := .ref (base + (x0 + 3))) (zv_fin (zf2_2 ho_x0) rfl) dX2_isFull_22 ?_
    refine z_alen (A d0) hZ (isA_T3 hZ.k0 ho_x0) 1 rfl dX2_isFull_25 ?_
    refine lv_icmp_lt (tgt := 33) hx hb dX2_isFull_26 (by decide) (fun hc => ?_) (fun hc => ?_)
    · replace h := h.1 hc
      refine lv_iconst (v := (0 : Int32)) hx hb dX2_isFull_33 (by decide) ?_
      exact (zb_X2_isFull_34 A hr hd0 hZ (lv_sub hl [] rfl) h)
    · replace h := h.2 hc
      exact (zb_X2_isFull_29 A hr hd0 hZ (lv_sub hl [] rfl) h)
/-! cX2_pieceAt -/
set_option maxRecDepth 100000 in
set_option maxHeartbeats 4000000 in
theorem zb_X2_pieceAt_22 {p : Program} {l : Launch} {e : Env} {R : Room} {s : State} {m : MethodId} {args : Array Value} {below : List Frame} {meth : Method} {c : Code} {G : ZG} {base z0 : Nat} {Q : Option Nat → Mem → Prop} (A : ∀ d, Amb p R (s.setDrawn d) m args meth c G base z0 cX2_pieceAt yX2_pieceAt.cls 2 0 0) (hr : meth.sig.returnType = (some (.object "LeaningIndex$Piece"))) {d0 : Drawn} {H : Heap} {locs : List Loc} {cells slots : Nat} {ls : Array Slot} {t0 : Option Nat} {M : Mem} (hd0 : s.drawn.sameBut d0 lw_cs) (hZ : ZH G true base s.heap M H locs) (hl : lv_has ls 2 []) (h : wp_X2_pieceAt_22 t0 M Q) : W p l e R (s.setDrawn d0) m args below meth c H locs cells slots (ZEnd below G true base z0 (qR base Q) args s) (F0 m 22 ls [vr base t0]) := by
  have hx := (A d0).1
  have hb := (A d0).2.1
  unfold wp_X2_pieceAt_22 at h
  exact z_aret (r := t0) A hd0 hZ hr ⟨_, rfl, h⟩ dX2_pieceAt_22
set_option maxRecDepth 100000 in
set_option maxHeartbeats 4000000 in
theorem zb_X2_pieceAt_21 {p : Program} {l : Launch} {e : Env} {R : Room} {s : State} {m : MethodId} {args : Array Value} {below : List Frame} {meth : Method} {c : Code} {G : ZG} {base z0 : Nat} {Q : Option Nat → Mem → Prop} (A : ∀ d, Amb p R (s.setDrawn d) m args meth c G base z0 cX2_pieceAt yX2_pieceAt.cls 2 0 0) (hr : meth.sig.returnType = (some (.object "LeaningIndex$Piece"))) {d0 : Drawn} {H : Heap} {locs : List Loc} {cells slots : Nat} {ls : Array Slot}  {M : Mem} (hd0 : s.drawn.sameBut d0 lw_cs) (hZ : ZH G true base s.heap M H locs) (hl : lv_has ls 2 []) (h : wp_X2_pieceAt_21 M Q) : W p l e R (s.setDrawn d0) m args below meth c H locs cells slots (ZEnd below G true base z0 (qR base Q) args s) (F0 m 21 ls []) := by
  have hx := (A d0).1
  have hb := (A d0).2.1
  unfold wp_X2_pieceAt_21 at h
  refine z_null (base := base) hx hb dX2_pieceAt_21 ?_
  exact (zb_X2_pieceAt_22 A hr hd0 hZ (lv_sub hl [] rfl) h)
set_option maxRecDepth 100000 in
set_option maxHeartbeats 4000000 in
theorem c_X2_pieceAt (l : Launch) (G : ZG) (base : Nat) (M : Mem) (x0 : Nat) (x1 : Int32) (Q : Option Nat → Mem → Prop) (h : wp_X2_pieceAt x0 x1 M Q) : ZMet l yX2_pieceAt cX2_pieceAt 2 (some (.object "LeaningIndex$Piece")) 0 0 G true base M [.ref (base + x0), .int x1] (qR base Q) := by
  refine z_start (by decide) (Nat.le_of_ble_eq_true rfl) k_co_yX2_pieceAt ?_
  intro p e s m below meth c R d0 H locs cells slots ls A hr hn hd0 hZ hl
  have hx := (A d0).1
  have hb := (A d0).2.1
  have hl : lv_has ls 2 [(0, .ref (base + x0)), (1, .int x1)] := hl
  unfold wp_X2_pieceAt at h
  obtain ⟨ho_x0, h⟩ := h
  refine lv_iload_n hx hb dX2_pieceAt_0 rfl (lv_at hl 1 rfl) ?_
  refine lv_if_lt (tgt := 21) hx hb dX2_pieceAt_1 (by decide) (fun hc => ?_) (fun hc => ?_)
  · replace h := h.1 hc
    exact (zb_X2_pieceAt_21 A hr hd0 hZ (lv_sub hl [] rfl) h)
  · replace h := h.2 hc
    refine lv_iload_n hx hb dX2_pieceAt_4 rfl (lv_at hl 1 rfl) ?_
    refine lv_aload_n hx hb dX2_pieceAt_5 rfl (lv_at hl 0 rfl) ?_
    refine z_get (A d0) hZ (ci := 2) (j := 6) ho_x0.1 ho_x0.2 (by decide) (by decide) k_fl_RX2_18 (v := .int (mI M x0 6)) rfl dX2_pieceAt_6 ?_
    refine lv_icmp_ge (tgt := 21) hx hb dX2_pieceAt_9 (by decide) (fun hc => ?_) (fun hc => ?_)
    · replace h := h.1 hc
      exact (zb_X2_pieceAt_21 A hr hd0 hZ (lv_sub hl [] rfl) h)
    · replace h := h.2 hc
      refine lv_aload_n hx hb dX2_pieceAt_12 rfl (lv_at hl 0 rfl) ?_
      refine z_get (A d0) hZ (ci := 2) (j := 3) ho_x0.1 ho_x0.2 (by decide) (by decide) k_fl_RX2_34 (v := .ref (base + (x0 + 4))) (zv_fin (zf2_3 ho_x0) rfl) dX2_pieceAt_13 ?_
      refine lv_iload_n hx hb dX2_pieceAt_16 rfl (lv_at hl 1 rfl) ?_
      obtain ⟨hin, h⟩ := h
      refine z_aaldP (A d0) hZ (isA_T4 hZ.k0 ho_x0) hin dX2_pieceAt_17 ?_
      obtain ⟨r1, er1⟩ : ∃ y : Option Nat, y = mR M (x0 + 4) x1.toNatClampNeg := ⟨_, rfl⟩
      rw [← er1]
      replace h := h r1 er1
      refine lv_goto (tgt := 22) hx hb dX2_pieceAt_18 (by decide) ?_
      exact (zb_X2_pieceAt_22 A hr hd0 hZ (lv_sub hl [] rfl) h)
/-! cX2_keyOf -/
set_option maxRecDepth 100000 in
set_option maxHeartbeats 4000000 in
theorem zb_X2_keyOf_43 {p : Program} {l : Launch} {e : Env} {R : Room} {s : State} {m : MethodId} {args : Array Value} {below : List Frame} {meth : Method} {c : Code} {G : ZG} {base z0 : Nat} {Q : Int64 → Mem → Prop} (A : ∀ d, Amb p R (s.setDrawn d) m args meth c G base z0 cX2_keyOf yX2_keyOf.cls 4 0 0) (hr : meth.sig.returnType = (some .long)) {d0 : Drawn} {H : Heap} {locs : List Loc} {cells slots : Nat} {ls : Array Slot} {t0 : Int64} {M : Mem} (hd0 : s.drawn.sameBut d0 lw_cs) (hZ : ZH G true base s.heap M H locs) (hl : lv_has ls 4 []) (h : wp_X2_keyOf_43 t0 M Q) : W p l e R (s.setDrawn d0) m args below meth c H locs cells slots (ZEnd below G true base z0 (qL Q) args s) (F0 m 43 ls [.long t0]) := by
  have hx := (A d0).1
  have hb := (A d0).2.1
  unfold wp_X2_keyOf_43 at h
  exact z_lret A hd0 hZ hr ⟨_, rfl, h⟩ dX2_keyOf_43
set_option maxRecDepth 100000 in
set_option maxHeartbeats 4000000 in
theorem zb_X2_keyOf_40 {p : Program} {l : Launch} {e : Env} {R : Room} {s : State} {m : MethodId} {args : Array Value} {below : List Frame} {meth : Method} {c : Code} {G : ZG} {base z0 : Nat} {Q : Int64 → Mem → Prop} (A : ∀ d, Amb p R (s.setDrawn d) m args meth c G base z0 cX2_keyOf yX2_keyOf.cls 4 0 0) (hr : meth.sig.returnType = (some .long)) {d0 : Drawn} {H : Heap} {locs : List Loc} {cells slots : Nat} {ls : Array Slot}  {M : Mem} (hd0 : s.drawn.sameBut d0 lw_cs) (hZ : ZH G true base s.heap M H locs) (hl : lv_has ls 4 []) (h : wp_X2_keyOf_40 M Q) : W p l e R (s.setDrawn d0) m args below meth c H locs cells slots (ZEnd below G true base z0 (qL Q) args s) (F0 m 40 ls []) := by
  have hx := (A d0).1
  have hb := (A d0).2.1
  unfold wp_X2_keyOf_40 at h
  refine lv_ldc2 (v := (-9223372036854775808 : Int64)) hx hb (A d0).2.2.2.1 ((A d0).2.2.2.2.1 _ k_lc_RX2_42) dX2_keyOf_40 ?_
  exact (zb_X2_keyOf_43 A hr hd0 hZ (lv_sub hl [] rfl) h)
set_option maxRecDepth 100000 in
set_option maxHeartbeats 4000000 in
theorem c_X2_keyOf (l : Launch) (G : ZG) (base : Nat) (M : Mem) (x0 : Nat) (x1 : Option Nat) (x2 : Int32) (Q : Int64 → Mem → Prop) (h : wp_X2_keyOf x0 x1 x2 M Q) : ZMet l yX2_keyOf cX2_keyOf 4 (some .long) 0 0 G true base M [.ref (base + x0), vr base x1, .int x2] (qL Q) := by
  refine z_start (by decide) (by simp [lg_sl, cat_vr, cat_r, cat_i, cat_l, cat_d]) k_co_yX2_keyOf ?_
  intro p e s m below meth c R d0 H locs cells slots ls A hr hn hd0 hZ hl
  have hx := (A d0).1
  have hb := (A d0).2.1
  have hl : lv_has ls 4 [(0, .ref (base + x0)), (1, vr base x1), (2, .int x2)] := by simpa [lv_args, cat_vr, cat_r, cat_i, cat_l, cat_d] using hl
  unfold wp_X2_keyOf at h
  obtain ⟨ho_x0, h⟩ := h
  refine z_aload_n (base := base) hx hb dX2_keyOf_0 rfl (lv_at hl 1 rfl) ?_
  obtain ⟨a1, rfl, ho_a1, h⟩ := h
  refine z_getN (A d0) hZ (ci := 0) (j := 2) ho_a1.1 ho_a1.2 (by decide) (by decide) k_fn_RX2_38 (v := .int (mI M a1 2)) rfl dX2_keyOf_1 ?_
  refine lv_iload_n hx hb dX2_keyOf_4 rfl (lv_at hl 2 rfl) ?_
  refine lv_iadd hx hb dX2_keyOf_5 ?_
  obtain ⟨i2, ei2⟩ : ∃ y : Int32, y = (mI M a1 2) + x2 := ⟨_, rfl⟩
  rw [← ei2]
  replace h := h i2 ei2
  refine lv_istore_n (lv' := [(3, .int i2), (0, .ref (base + x0)), (1, .ref (base + a1)), (2, .int x2)]) hx hb dX2_keyOf_6 rfl hl (by decide) rfl (fun ls hl2 => ?_)
  replace hl := hl2
  refine lv_iload_n hx hb dX2_keyOf_7 rfl (lv_at hl 3 rfl) ?_
  refine lv_if_lt (tgt := 40) hx hb dX2_keyOf_8 (by decide) (fun hc => ?_) (fun hc => ?_)
  · replace h := h.1 hc
    exact (zb_X2_keyOf_40 A hr hd0 hZ (lv_sub hl [] rfl) h)
  · replace h := h.2 hc
    refine lv_iload_n hx hb dX2_keyOf_11 rfl (lv_at hl 3 rfl) ?_
    refine lv_aload_n hx hb dX2_keyOf_12 rfl (lv_at hl 2 rfl) ?_
    refine z_getN (A d0) hZ (ci := 0) (j := 3) ho_a1.1 ho_a1.2 (by decide) (by decide) k_fn_RX2_41 (v := .int (mI M a1 3)) rfl dX2_keyOf_13 ?_
    refine lv_icmp_ge (tgt := 40) hx hb dX2_keyOf_16 (by decide) (fun hc => ?_) (fun hc => ?_)
    · replace h := h.1 hc
      exact (zb_X2_keyOf_40 A hr hd0 hZ (lv_sub hl [] rfl) h)
    · replace h := h.2 hc
      refine lv_iload_n hx hb dX2_keyOf_19 rfl (lv_at hl 0 rfl) ?_
      refine lv_if_lt (tgt := 40) hx hb dX2_keyOf_20 (by decide) (fun hc => ?_) (fun hc => ?_)
      · replace h := h.1 hc
        exact (zb_X2_keyOf_40 A hr hd0 hZ (lv_sub hl [] rfl) h)
      · replace h := h.2 hc
        refine lv_iload_n hx hb dX2_keyOf_23 rfl (lv_at hl 0 rfl) ?_
        refine lv_aload_n hx hb dX2_keyOf_24 rfl (lv_at hl 1 rfl) ?_
        refine z_get (A d0) hZ (ci := 2) (j := 4) ho_x0.1 ho_x0.2 (by decide) (by decide) k_fl_RX2_9 (v := .int (mI M x0 4)) rfl dX2_keyOf_25 ?_
        refine lv_icmp_ge (tgt := 40) hx hb dX2_keyOf_28 (by decide) (fun hc => ?_) (fun hc => ?_)
        · replace h := h.1 hc
          exact (zb_X2_keyOf_40 A hr hd0 hZ (lv_sub hl [] rfl) h)
        · replace h := h.2 hc
          refine lv_aload_n hx hb dX2_keyOf_31 rfl (lv_at hl 1 rfl) ?_
          refine z_get (A d0) hZ (ci := 2) (j := 0) ho_x0.1 ho_x0.2 (by decide) (by decide) k_fl_RX2_21 (v := .ref (base + (x0 + 1))) (zv_fin (zf2_0 ho_x0) rfl) dX2_keyOf_32 ?_
          refine lv_iload_n hx hb dX2_keyOf_35 rfl (lv_at hl 0 rfl) ?_
          obtain ⟨hin, h⟩ := h
          refine z_lald (A d0) hZ (isA_T1 hZ.k0 ho_x0) hin dX2_keyOf_36 ?_
          refine lv_goto (tgt := 43) hx hb dX2_keyOf_37 (by decide) ?_
          exact (zb_X2_keyOf_43 A hr hd0 hZ (lv_sub hl [] rfl) h)
/-! cX2_lateOf -/
set_option maxRecDepth 100000 in
set_option maxHeartbeats 4000000 in
theorem zb_X2_lateOf_43 {p : Program} {l : Launch} {e : Env} {R : Room} {s : State} {m : MethodId} {args : Array Value} {below : List Frame} {meth : Method} {c : Code} {G : ZG} {base z0 : Nat} {Q : Int64 → Mem → Prop} (A : ∀ d, Amb p R (s.setDrawn d) m args meth c G base z0 cX2_lateOf yX2_lateOf.cls 4 0 0) (hr : meth.sig.returnType = (some .long)) {d0 : Drawn} {H : Heap} {locs : List Loc} {cells slots : Nat} {ls : Array Slot} {t0 : Int64} {M : Mem} (hd0 : s.drawn.sameBut d0 lw_cs) (hZ : ZH G true base s.heap M H locs) (hl : lv_has ls 4 []) (h : wp_X2_lateOf_43 t0 M Q) : W p l e R (s.setDrawn d0) m args below meth c H locs cells slots (ZEnd below G true base z0 (qL Q) args s) (F0 m 43 ls [.long t0]) := by
  have hx := (A d0).1
  have hb := (A d0).2.1
  unfold wp_X2_lateOf_43 at h
  exact z_lret A hd0 hZ hr ⟨_, rfl, h⟩ dX2_lateOf_43
set_option maxRecDepth 100000 in
set_option maxHeartbeats 4000000 in
theorem zb_X2_lateOf_40 {p : Program} {l : Launch} {e : Env} {R : Room} {s : State} {m : MethodId} {args : Array Value} {below : List Frame} {meth : Method} {c : Code} {G : ZG} {base z0 : Nat} {Q : Int64 → Mem → Prop} (A : ∀ d, Amb p R (s.setDrawn d) m args meth c G base z0 cX2_lateOf yX2_lateOf.cls 4 0 0) (hr : meth.sig.returnType = (some .long)) {d0 : Drawn} {H : Heap} {locs : List Loc} {cells slots : Nat} {ls : Array Slot}  {M : Mem} (hd0 : s.drawn.sameBut d0 lw_cs) (hZ : ZH G true base s.heap M H locs) (hl : lv_has ls 4 []) (h : wp_X2_lateOf_40 M Q) : W p l e R (s.setDrawn d0) m args below meth c H locs cells slots (ZEnd below G true base z0 (qL Q) args s) (F0 m 40 ls []) := by
  have hx := (A d0).1
  have hb := (A d0).2.1
  unfold wp_X2_lateOf_40 at h
  refine lv_ldc2 (v := (-9223372036854775808 : Int64)) hx hb (A d0).2.2.2.1 ((A d0).2.2.2.2.1 _ k_lc_RX2_42) dX2_lateOf_40 ?_
  exact (zb_X2_lateOf_43 A hr hd0 hZ (lv_sub hl [] rfl) h)
set_option maxRecDepth 100000 in
set_option maxHeartbeats 4000000 in
theorem c_X2_lateOf (l : Launch) (G : ZG) (base : Nat) (M : Mem) (x0 : Nat) (x1 : Option Nat) (x2 : Int32) (Q : Int64 → Mem → Prop) (h : wp_X2_lateOf x0 x1 x2 M Q) : ZMet l yX2_lateOf cX2_lateOf 4 (some .long) 0 0 G true base M [.ref (base + x0), vr base x1, .int x2] (qL Q) := by
  refine z_start (by decide) (by simp [lg_sl, cat_vr, cat_r, cat_i, cat_l, cat_d]) k_co_yX2_lateOf ?_
  intro p e s m below meth c R d0 H locs cells slots ls A hr hn hd0 hZ hl
  have hx := (A d0).1
  have hb := (A d0).2.1
  have hl : lv_has ls 4 [(0, .ref (base + x0)), (1, vr base x1), (2, .int x2)] := by simpa [lv_args, cat_vr, cat_r, cat_i, cat_l, cat_d] using hl
  unfold wp_X2_lateOf at h
  obtain ⟨ho_x0, h⟩ := h
  refine z_aload_n (base := base) hx hb dX2_lateOf_0 rfl (lv_at hl 1 rfl) ?_
  obtain ⟨a1, rfl, ho_a1, h⟩ := h
  refine z_getN (A d0) hZ (ci := 0) (j := 4) ho_a1.1 ho_a1.2 (by decide) (by decide) k_fn_RX2_44 (v := .int (mI M a1 4)) rfl dX2_lateOf_1 ?_
  refine lv_iload_n hx hb dX2_lateOf_4 rfl (lv_at hl 2 rfl) ?_
  refine lv_iadd hx hb dX2_lateOf_5 ?_
  obtain ⟨i2, ei2⟩ : ∃ y : Int32, y = (mI M a1 4) + x2 := ⟨_, rfl⟩
  rw [← ei2]
  replace h := h i2 ei2
  refine lv_istore_n (lv' := [(3, .int i2), (0, .ref (base + x0)), (1, .ref (base + a1)), (2, .int x2)]) hx hb dX2_lateOf_6 rfl hl (by decide) rfl (fun ls hl2 => ?_)
  replace hl := hl2
  refine lv_iload_n hx hb dX2_lateOf_7 rfl (lv_at hl 3 rfl) ?_
  refine lv_if_lt (tgt := 40) hx hb dX2_lateOf_8 (by decide) (fun hc => ?_) (fun hc => ?_)
  · replace h := h.1 hc
    exact (zb_X2_lateOf_40 A hr hd0 hZ (lv_sub hl [] rfl) h)
  · replace h := h.2 hc
    refine lv_iload_n hx hb dX2_lateOf_11 rfl (lv_at hl 3 rfl) ?_
    refine lv_aload_n hx hb dX2_lateOf_12 rfl (lv_at hl 2 rfl) ?_
    refine z_getN (A d0) hZ (ci := 0) (j := 5) ho_a1.1 ho_a1.2 (by decide) (by decide) k_fn_RX2_47 (v := .int (mI M a1 5)) rfl dX2_lateOf_13 ?_
    refine lv_icmp_ge (tgt := 40) hx hb dX2_lateOf_16 (by decide) (fun hc => ?_) (fun hc => ?_)
    · replace h := h.1 hc
      exact (zb_X2_lateOf_40 A hr hd0 hZ (lv_sub hl [] rfl) h)
    · replace h := h.2 hc
      refine lv_iload_n hx hb dX2_lateOf_19 rfl (lv_at hl 0 rfl) ?_
      refine lv_if_lt (tgt := 40) hx hb dX2_lateOf_20 (by decide) (fun hc => ?_) (fun hc => ?_)
      · replace h := h.1 hc
        exact (zb_X2_lateOf_40 A hr hd0 hZ (lv_sub hl [] rfl) h)
      · replace h := h.2 hc
        refine lv_iload_n hx hb dX2_lateOf_23 rfl (lv_at hl 0 rfl) ?_
        refine lv_aload_n hx hb dX2_lateOf_24 rfl (lv_at hl 1 rfl) ?_
        refine z_get (A d0) hZ (ci := 2) (j := 5) ho_x0.1 ho_x0.2 (by decide) (by decide) k_fl_RX2_15 (v := .int (mI M x0 5)) rfl dX2_lateOf_25 ?_
        refine lv_icmp_ge (tgt := 40) hx hb dX2_lateOf_28 (by decide) (fun hc => ?_) (fun hc => ?_)
        · replace h := h.1 hc
          exact (zb_X2_lateOf_40 A hr hd0 hZ (lv_sub hl [] rfl) h)
        · replace h := h.2 hc
          refine lv_aload_n hx hb dX2_lateOf_31 rfl (lv_at hl 1 rfl) ?_
          refine z_get (A d0) hZ (ci := 2) (j := 2) ho_x0.1 ho_x0.2 (by decide) (by decide) k_fl_RX2_29 (v := .ref (base + (x0 + 3))) (zv_fin (zf2_2 ho_x0) rfl) dX2_lateOf_32 ?_
          refine lv_iload_n hx hb dX2_lateOf_35 rfl (lv_at hl 0 rfl) ?_
          obtain ⟨hin, h⟩ := h
          refine z_lald (A d0) hZ (isA_T3 hZ.k0 ho_x0) hin dX2_lateOf_36 ?_
          refine lv_goto (tgt := 43) hx hb dX2_lateOf_37 (by decide) ?_
          exact (zb_X2_lateOf_43 A hr hd0 hZ (lv_sub hl [] rfl) h)
/-! cX2_isDropped -/
set_option maxRecDepth 100000 in
set_option maxHeartbeats 4000000 in
theorem zb_X2_isDropped_45 {p : Program} {l : Launch} {e : Env} {R : Room} {s : State} {m : MethodId} {args : Array Value} {below : List Frame} {meth : Method} {c : Code} {G : ZG} {base z0 : Nat} {Q : Int32 → Mem → Prop} (A : ∀ d, Amb p R (s.setDrawn d) m args meth c G base z0 cX2_isDropped yX2_isDropped.cls 4 0 0) (hr : meth.sig.returnType = (some .boolean)) {d0 : Drawn} {H : Heap} {locs : List Loc} {cells slots : Nat} {ls : Array Slot} {t0 : Int32} {M : Mem} (hd0 : s.drawn.sameBut d0 lw_cs) (hZ : ZH G true base s.heap M H locs) (hl : lv_has ls 4 []) (h : wp_X2_isDropped_45 t0 M Q) : W p l e R (s.setDrawn d0) m args below meth c H locs cells slots (ZEnd below G true base z0 (qI Q) args s) (F0 m 45 ls [.int t0]) := by
  have hx := (A d0).1
  have hb := (A d0).2.1
  unfold wp_X2_isDropped_45 at h
  exact z_zret A hd0 hZ hr h.1 ⟨_, rfl, h.2⟩ dX2_isDropped_45
set_option maxRecDepth 100000 in
set_option maxHeartbeats 4000000 in
theorem zb_X2_isDropped_44 {p : Program} {l : Launch} {e : Env} {R : Room} {s : State} {m : MethodId} {args : Array Value} {below : List Frame} {meth : Method} {c : Code} {G : ZG} {base z0 : Nat} {Q : Int32 → Mem → Prop} (A : ∀ d, Amb p R (s.setDrawn d) m args meth c G base z0 cX2_isDropped yX2_isDropped.cls 4 0 0) (hr : meth.sig.returnType = (some .boolean)) {d0 : Drawn} {H : Heap} {locs : List Loc} {cells slots : Nat} {ls : Array Slot}  {M : Mem} (hd0 : s.drawn.sameBut d0 lw_cs) (hZ : ZH G true base s.heap M H locs) (hl : lv_has ls 4 []) (h : wp_X2_isDropped_44 M Q) : W p l e R (s.setDrawn d0) m args below meth c H locs cells slots (ZEnd below G true base z0 (qI Q) args s) (F0 m 44 ls []) := by
  have hx := (A d0).1
  have hb := (A d0).2.1
  unfold wp_X2_isDropped_44 at h
  refine lv_iconst (v := (0 : Int32)) hx hb dX2_isDropped_44 (by decide) ?_
  exact (zb_X2_isDropped_45 A hr hd0 hZ (lv_sub hl [] rfl) h)
set_option maxRecDepth 100000 in
set_option maxHeartbeats 4000000 in
theorem c_X2_isDropped (l : Launch) (G : ZG) (base : Nat) (M : Mem) (x0 : Nat) (x1 : Option Nat) (x2 : Int32) (Q : Int32 → Mem → Prop) (h : wp_X2_isDropped x0 x1 x2 M Q) : ZMet l yX2_isDropped cX2_isDropped 4 (some .boolean) 0 0 G true base M [.ref (base + x0), vr base x1, .int x2] (qI Q) := by
  refine z_start (by decide) (by simp [lg_sl, cat_vr, cat_r, cat_i, cat_l, cat_d]) k_co_yX2_isDropped ?_
  intro p e s m below meth c R d0 H locs cells slots ls A hr hn hd0 hZ hl
  have hx := (A d0).1
  have hb := (A d0).2.1
  have hl : lv_has ls 4 [(0, .ref (base + x0)), (1, vr base x1), (2, .int x2)] := by simpa [lv_args, cat_vr, cat_r, cat_i, cat_l, cat_d] using hl
  unfold wp_X2_isDropped at h
  obtain ⟨ho_x0, h⟩ := h
  refine z_aload_n (base := base) hx hb dX2_isDropped_0 rfl (lv_at hl 1 rfl) ?_
  obtain ⟨a1, rfl, ho_a1, h⟩ := h
  refine z_getN (A d0) hZ (ci := 0) (j := 2) ho_a1.1 ho_a1.2 (by decide) (by decide) k_fn_RX2_38 (v := .int (mI M a1 2)) rfl dX2_isDropped_1 ?_
  refine lv_iload_n hx hb dX2_isDropped_4 rfl (lv_at hl 2 rfl) ?_
  refine lv_iadd hx hb dX2_isDropped_5 ?_
  obtain ⟨i2, ei2⟩ : ∃ y : Int32, y = (mI M a1 2) + x2 := ⟨_, rfl⟩
  rw [← ei2]
  replace h := h i2 ei2
  refine lv_istore_n (lv' := [(3, .int i2), (0, .ref (base + x0)), (1, .ref (base + a1)), (2, .int x2)]) hx hb dX2_isDropped_6 rfl hl (by decide) rfl (fun ls hl2 => ?_)
  replace hl := hl2
  refine lv_iload_n hx hb dX2_isDropped_7 rfl (lv_at hl 3 rfl) ?_
  refine lv_if_lt (tgt := 44) hx hb dX2_isDropped_8 (by decide) (fun hc => ?_) (fun hc => ?_)
  · replace h := h.1 hc
    exact (zb_X2_isDropped_44 A hr hd0 hZ (lv_sub hl [] rfl) h)
  · replace h := h.2 hc
    refine lv_iload_n hx hb dX2_isDropped_11 rfl (lv_at hl 3 rfl) ?_
    refine lv_aload_n hx hb dX2_isDropped_12 rfl (lv_at hl 2 rfl) ?_
    refine z_getN (A d0) hZ (ci := 0) (j := 3) ho_a1.1 ho_a1.2 (by decide) (by decide) k_fn_RX2_41 (v := .int (mI M a1 3)) rfl dX2_isDropped_13 ?_
    refine lv_icmp_ge (tgt := 44) hx hb dX2_isDropped_16 (by decide) (fun hc => ?_) (fun hc => ?_)
    · replace h := h.1 hc
      exact (zb_X2_isDropped_44 A hr hd0 hZ (lv_sub hl [] rfl) h)
    · replace h := h.2 hc
      refine lv_iload_n hx hb dX2_isDropped_19 rfl (lv_at hl 0 rfl) ?_
      refine lv_if_lt (tgt := 44) hx hb dX2_isDropped_20 (by decide) (fun hc => ?_) (fun hc => ?_)
      · replace h := h.1 hc
        exact (zb_X2_isDropped_44 A hr hd0 hZ (lv_sub hl [] rfl) h)
      · replace h := h.2 hc
        refine lv_iload_n hx hb dX2_isDropped_23 rfl (lv_at hl 0 rfl) ?_
        refine lv_aload_n hx hb dX2_isDropped_24 rfl (lv_at hl 1 rfl) ?_
        refine z_get (A d0) hZ (ci := 2) (j := 4) ho_x0.1 ho_x0.2 (by decide) (by decide) k_fl_RX2_9 (v := .int (mI M x0 4)) rfl dX2_isDropped_25 ?_
        refine lv_icmp_ge (tgt := 44) hx hb dX2_isDropped_28 (by decide) (fun hc => ?_) (fun hc => ?_)
        · replace h := h.1 hc
          exact (zb_X2_isDropped_44 A hr hd0 hZ (lv_sub hl [] rfl) h)
        · replace h := h.2 hc
          refine lv_aload_n hx hb dX2_isDropped_31 rfl (lv_at hl 1 rfl) ?_
          refine z_get (A d0) hZ (ci := 2) (j := 1) ho_x0.1 ho_x0.2 (by decide) (by decide) k_fl_RX2_25 (v := .ref (base + (x0 + 2))) (zv_fin (zf2_1 ho_x0) rfl) dX2_isDropped_32 ?_
          refine lv_iload_n hx hb dX2_isDropped_35 rfl (lv_at hl 0 rfl) ?_
          obtain ⟨hin, h⟩ := h
          refine z_zald (A d0) hZ (isA_T2 hZ.k0 ho_x0) hin dX2_isDropped_36 ?_
          refine lv_if_eq (tgt := 44) hx hb dX2_isDropped_37 (by decide) (fun hc => ?_) (fun hc => ?_)
          · replace h := h.1 hc
            exact (zb_X2_isDropped_44 A hr hd0 hZ (lv_sub hl [] rfl) h)
          · replace h := h.2 hc
            refine lv_iconst (v := (1 : Int32)) hx hb dX2_isDropped_40 (by decide) ?_
            refine lv_goto (tgt := 45) hx hb dX2_isDropped_41 (by decide) ?_
            exact (zb_X2_isDropped_45 A hr hd0 hZ (lv_sub hl [] rfl) h)
/-! cX2_countDropped -/
set_option maxRecDepth 100000 in
set_option maxHeartbeats 4000000 in
theorem zb_X2_countDropped_27 {p : Program} {l : Launch} {e : Env} {R : Room} {s : State} {m : MethodId} {args : Array Value} {below : List Frame} {meth : Method} {c : Code} {G : ZG} {base z0 : Nat} {Q : Int32 → Mem → Prop} (A : ∀ d, Amb p R (s.setDrawn d) m args meth c G base z0 cX2_countDropped yX2_countDropped.cls 4 1 23) (hr : meth.sig.returnType = (some .int)) {K4 : Nat → Option Nat → Int32 → Int32 → Mem → Prop} {K35 : Int32 → Mem → Prop} {d0 : Drawn} {H : Heap} {locs : List Loc} {cells slots : Nat} {ls : Array Slot} {x0 : Nat} {x1 : Nat} {x3 : Int32} {t0 : Int32} {t1 : Int32} {M : Mem} (ho_x0 : isO M x0 2) (ho_x1 : isO M x1 0) (hd0 : s.drawn.sameBut d0 lw_cs) (hZ : ZH G true base s.heap M H locs) (hl : lv_has ls 4 [(0, .ref (base + x0)), (1, .ref (base + x1)), (3, .int x3)]) (h : wp_X2_countDropped_27 x0 x1 x3 t0 t1 M Q K4 K35) (hK4 : ∀ {d0 : Drawn} {H : Heap} {locs : List Loc} {cells slots : Nat} {ls : Array Slot} {x0 : Nat} {x1 : Option Nat} {x2 : Int32} {x3 : Int32} {M : Mem} (ho_x0 : isO M x0 2), s.drawn.sameBut d0 lw_cs → ZH G true base s.heap M H locs → lv_has ls 4 [(0, .ref (base + x0)), (1, vr base x1), (2, .int x2), (3, .int x3)] → K4 x0 x1 x2 x3 M → W p l e R (s.setDrawn d0) m args below meth c H locs cells slots (ZEnd below G true base z0 (qI Q) args s) (F0 m 4 ls [])) (hK35 : ∀ {d0 : Drawn} {H : Heap} {locs : List Loc} {cells slots : Nat} {ls : Array Slot} {x2 : Int32} {M : Mem}, s.drawn.sameBut d0 lw_cs → ZH G true base s.heap M H locs → lv_has ls 4 [(2, .int x2)] → K35 x2 M → W p l e R (s.setDrawn d0) m args below meth c H locs cells slots (ZEnd below G true base z0 (qI Q) args s) (F0 m 35 ls [])) : W p l e R (s.setDrawn d0) m args below meth c H locs cells slots (ZEnd below G true base z0 (qI Q) args s) (F0 m 27 ls [.int t0, .int t1]) := by
  have hx := (A d0).1
  have hb := (A d0).2.1
  unfold wp_X2_countDropped_27 at h
  refine lv_iadd hx hb dX2_countDropped_27 ?_
  obtain ⟨i4, ei4⟩ : ∃ y : Int32, y = t1 + t0 := ⟨_, rfl⟩
  rw [← ei4]
  replace h := h i4 ei4
  refine lv_istore_n (lv' := [(2, .int i4), (0, .ref (base + x0)), (1, .ref (base + x1)), (3, .int x3)]) hx hb dX2_countDropped_28 rfl hl (by decide) rfl (fun ls hl2 => ?_)
  replace hl := hl2
  obtain ⟨i5, ei5⟩ : ∃ y : Int32, y = x3 + (1 : Int32) := ⟨_, rfl⟩
  replace h := h i5 ei5
  refine lv_iinc (v := i5) (lv' := [(3, .int i5), (2, .int i4), (0, .ref (base + x0)), (1, .ref (base + x1))]) hx hb dX2_countDropped_29 hl (k := 3) rfl (by rw [ei5]; rfl) (by decide) rfl (fun ls hl2 => ?_)
  replace hl := hl2
  refine lv_goto (tgt := 4) hx hb dX2_countDropped_32 (by decide) ?_
  exact hK4 ho_x0 hd0 hZ (lv_sub hl [2, 3, 1, 0] rfl) h
set_option maxRecDepth 100000 in
set_option maxHeartbeats 4000000 in
theorem zb_X2_countDropped_35 {p : Program} {l : Launch} {e : Env} {R : Room} {s : State} {m : MethodId} {args : Array Value} {below : List Frame} {meth : Method} {c : Code} {G : ZG} {base z0 : Nat} {Q : Int32 → Mem → Prop} (A : ∀ d, Amb p R (s.setDrawn d) m args meth c G base z0 cX2_countDropped yX2_countDropped.cls 4 1 23) (hr : meth.sig.returnType = (some .int)) {d0 : Drawn} {H : Heap} {locs : List Loc} {cells slots : Nat} {ls : Array Slot} {x2 : Int32} {M : Mem} (hd0 : s.drawn.sameBut d0 lw_cs) (hZ : ZH G true base s.heap M H locs) (hl : lv_has ls 4 [(2, .int x2)]) (h : wp_X2_countDropped_35 x2 M Q) : W p l e R (s.setDrawn d0) m args below meth c H locs cells slots (ZEnd below G true base z0 (qI Q) args s) (F0 m 35 ls []) := by
  have hx := (A d0).1
  have hb := (A d0).2.1
  unfold wp_X2_countDropped_35 at h
  refine lv_iload_n hx hb dX2_countDropped_35 rfl (lv_at hl 0 rfl) ?_
  exact z_iret A hd0 hZ hr ⟨_, rfl, h⟩ dX2_countDropped_36
set_option maxRecDepth 100000 in
set_option maxHeartbeats 4000000 in
theorem zb_X2_countDropped_4 {p : Program} {l : Launch} {e : Env} {R : Room} {s : State} {m : MethodId} {args : Array Value} {below : List Frame} {meth : Method} {c : Code} {G : ZG} {base z0 : Nat} {Q : Int32 → Mem → Prop} (A : ∀ d, Amb p R (s.setDrawn d) m args meth c G base z0 cX2_countDropped yX2_countDropped.cls 4 1 23) (hr : meth.sig.returnType = (some .int)) {K35 : Int32 → Mem → Prop} :
  ∀ (n : Nat) {d0 : Drawn} {H : Heap} {locs : List Loc} {cells slots : Nat} {ls : Array Slot} {x0 : Nat} {x1 : Option Nat} {x2 : Int32} {x3 : Int32} {M : Mem} (ho_x0 : isO M x0 2) (hd0 : s.drawn.sameBut d0 lw_cs) (hZ : ZH G true base s.heap M H locs) (hl : lv_has ls 4 [(0, .ref (base + x0)), (1, vr base x1), (2, .int x2), (3, .int x3)]) (h : wp_X2_countDropped_4 n x0 x1 x2 x3 M Q K35) (hK35 : ∀ {d0 : Drawn} {H : Heap} {locs : List Loc} {cells slots : Nat} {ls : Array Slot} {x2 : Int32} {M : Mem}, s.drawn.sameBut d0 lw_cs → ZH G true base s.heap M H locs → lv_has ls 4 [(2, .int x2)] → K35 x2 M → W p l e R (s.setDrawn d0) m args below meth c H locs cells slots (ZEnd below G true base z0 (qI Q) args s) (F0 m 35 ls [])), W p l e R (s.setDrawn d0) m args below meth c H locs cells slots (ZEnd below G true base z0 (qI Q) args s) (F0 m 4 ls []) := by
  have hx := (A default).1
  have hb := (A default).2.1
  intro n
  induction n with
  | zero => intro d0 H locs cells slots ls x0 x1 x2 x3 M ho_x0 hd0 hZ hl h hK35; exact h.elim
  | succ n ih =>
    intro d0 H locs cells slots ls x0 x1 x2 x3 M ho_x0 hd0 hZ hl h hK35
    unfold wp_X2_countDropped_4 at h
    refine lv_iload_n hx hb dX2_countDropped_4 rfl (lv_at hl 3 rfl) ?_
    refine z_aload_n (base := base) hx hb dX2_countDropped_5 rfl (lv_at hl 1 rfl) ?_
    obtain ⟨a1, rfl, ho_a1, h⟩ := h
    refine z_getN (A d0) hZ (ci := 0) (j := 3) ho_a1.1 ho_a1.2 (by decide) (by decide) k_fn_RX2_41 (v := .int (mI M a1 3)) rfl dX2_countDropped_6 ?_
    refine lv_icmp_ge (tgt := 35) hx hb dX2_countDropped_9 (by decide) (fun hc => ?_) (fun hc => ?_)
    · replace h := h.1 hc
      exact hK35 hd0 hZ (lv_sub hl [2] rfl) h
    · replace h := h.2 hc
      refine lv_iload_n hx hb dX2_countDropped_12 rfl (lv_at hl 2 rfl) ?_
      refine lv_aload_n hx hb dX2_countDropped_13 rfl (lv_at hl 0 rfl) ?_
      refine lv_aload_n hx hb dX2_countDropped_14 rfl (lv_at hl 1 rfl) ?_
      refine lv_iload_n hx hb dX2_countDropped_15 rfl (lv_at hl 3 rfl) ?_
      refine z_callV A hd0 hZ (ci := 2) (nA := 2) (As := [vr base (some a1), .int x3]) (by decide) ho_x0 (c_X2_isDropped l G base M x0 (some a1) x3 _ h) k_ml_RX2_48 k_im_yX2_isDropped k_se_yX2_isDropped k_in_RX2 k_co_yX2_isDropped (by decide +kernel) ⟨by decide, by decide⟩ rfl rfl (Nat.le_of_ble_eq_true rfl) hl dX2_countDropped_16 (fun v M2 H locs d0 cells slots hq hd0 hZ hm => ?_)
      clear h
      obtain ⟨i3, rfl, h⟩ := hq
      have ho_x0 := isO_le hm ho_x0
      have ho_a1 := isO_le hm ho_a1
      refine lv_if_eq (tgt := 26) hx hb dX2_countDropped_19 (by decide) (fun hc => ?_) (fun hc => ?_)
      · replace h := h.1 hc
        refine lv_iconst (v := (0 : Int32)) hx hb dX2_countDropped_26 (by decide) ?_
        exact (zb_X2_countDropped_27 A hr ho_x0 ho_a1 hd0 hZ (lv_sub hl [0, 1, 3] rfl) h (fun ho_x0 hd0 hZ hl h => ih ho_x0 hd0 hZ hl h hK35) hK35)
      · replace h := h.2 hc
        refine lv_iconst (v := (1 : Int32)) hx hb dX2_countDropped_22 (by decide) ?_
        refine lv_goto (tgt := 27) hx hb dX2_countDropped_23 (by decide) ?_
        exact (zb_X2_countDropped_27 A hr ho_x0 ho_a1 hd0 hZ (lv_sub hl [0, 1, 3] rfl) h (fun ho_x0 hd0 hZ hl h => ih ho_x0 hd0 hZ hl h hK35) hK35)
set_option maxRecDepth 100000 in
set_option maxHeartbeats 4000000 in
theorem c_X2_countDropped (l : Launch) (G : ZG) (base : Nat) (M : Mem) (x0 : Nat) (x1 : Option Nat) (Q : Int32 → Mem → Prop) (h : wp_X2_countDropped x0 x1 M Q) : ZMet l yX2_countDropped cX2_countDropped 4 (some .int) 1 23 G true base M [.ref (base + x0), vr base x1] (qI Q) := by
  refine z_start (by decide) (by simp [lg_sl, cat_vr, cat_r, cat_i, cat_l, cat_d]) k_co_yX2_countDropped ?_
  intro p e s m below meth c R d0 H locs cells slots ls A hr hn hd0 hZ hl
  have hx := (A d0).1
  have hb := (A d0).2.1
  have hl : lv_has ls 4 [(0, .ref (base + x0)), (1, vr base x1)] := by simpa [lv_args, cat_vr, cat_r, cat_i, cat_l, cat_d] using hl
  unfold wp_X2_countDropped at h
  obtain ⟨ho_x0, h⟩ := h
  refine lv_iconst (v := (0 : Int32)) hx hb dX2_countDropped_0 (by decide) ?_
  refine lv_istore_n (lv' := [(2, .int (0 : Int32)), (0, .ref (base + x0)), (1, vr base x1)]) hx hb dX2_countDropped_1 rfl hl (by decide) (by simp [cat_vr, cat_r, cat_i, cat_l, cat_d]) (fun ls hl2 => ?_)
  replace hl := hl2
  refine lv_iconst (v := (0 : Int32)) hx hb dX2_countDropped_2 (by decide) ?_
  refine lv_istore_n (lv' := [(3, .int (0 : Int32)), (2, .int (0 : Int32)), (0, .ref (base + x0)), (1, vr base x1)]) hx hb dX2_countDropped_3 rfl hl (by decide) rfl (fun ls hl2 => ?_)
  replace hl := hl2
  exact (Exists.elim h fun kk h => zb_X2_countDropped_4 A hr kk ho_x0 hd0 hZ (lv_sub hl [2, 3, 1, 0] rfl) h (fun hd0 hZ hl h => (zb_X2_countDropped_35 A hr hd0 hZ hl h)))
/-! cJ9_abs_0f7a4 -/
set_option maxRecDepth 100000 in
set_option maxHeartbeats 4000000 in
theorem zb_J9_abs_0f7a4_10 {p : Program} {l : Launch} {e : Env} {R : Room} {s : State} {m : MethodId} {args : Array Value} {below : List Frame} {meth : Method} {c : Code} {G : ZG} {base z0 : Nat} {Q : Int32 → Mem → Prop} (A : ∀ d, Amb p R (s.setDrawn d) m args meth c G base z0 cJ9_abs_0f7a4 yJ9_abs_0f7a4.cls 1 0 0) (hr : meth.sig.returnType = (some .int)) {d0 : Drawn} {H : Heap} {locs : List Loc} {cells slots : Nat} {ls : Array Slot} {t0 : Int32} {M : Mem} (hd0 : s.drawn.sameBut d0 lw_cs) (hZ : ZH G true base s.heap M H locs) (hl : lv_has ls 1 []) (h : wp_J9_abs_0f7a4_10 t0 M Q) : W p l e R (s.setDrawn d0) m args below meth c H locs cells slots (ZEnd below G true base z0 (qI Q) args s) (F0 m 10 ls [.int t0]) := by
  have hx := (A d0).1
  have hb := (A d0).2.1
  unfold wp_J9_abs_0f7a4_10 at h
  exact z_iret A hd0 hZ hr ⟨_, rfl, h⟩ dJ9_abs_0f7a4_10
set_option maxRecDepth 100000 in
set_option maxHeartbeats 4000000 in
theorem c_J9_abs_0f7a4 (l : Launch) (G : ZG) (base : Nat) (M : Mem) (x0 : Int32) (Q : Int32 → Mem → Prop) (h : wp_J9_abs_0f7a4 x0 M Q) : ZMet l yJ9_abs_0f7a4 cJ9_abs_0f7a4 1 (some .int) 0 0 G true base M [.int x0] (qI Q) := by
  refine z_start (by decide +kernel) (Nat.le_of_ble_eq_true rfl) k_co_yJ9_abs_0f7a4 ?_
  intro p e s m below meth c R d0 H locs cells slots ls A hr hn hd0 hZ hl
  have hx := (A d0).1
  have hb := (A d0).2.1
  have hl : lv_has ls 1 [(0, .int x0)] := hl
  unfold wp_J9_abs_0f7a4 at h
  refine lv_iload_n hx hb dJ9_abs_0f7a4_0 rfl (lv_at hl 0 rfl) ?_
  refine lv_if_ge (tgt := 9) hx hb dJ9_abs_0f7a4_1 (by decide) (fun hc => ?_) (fun hc => ?_)
  · replace h := h.1 hc
    refine lv_iload_n hx hb dJ9_abs_0f7a4_9 rfl (lv_at hl 0 rfl) ?_
    exact (zb_J9_abs_0f7a4_10 A hr hd0 hZ (lv_sub hl [] rfl) h)
  · replace h := h.2 hc
    refine lv_iload_n hx hb dJ9_abs_0f7a4_4 rfl (lv_at hl 0 rfl) ?_
    refine lv_ineg hx hb dJ9_abs_0f7a4_5 ?_
    refine lv_goto (tgt := 10) hx hb dJ9_abs_0f7a4_6 (by decide) ?_
    exact (zb_J9_abs_0f7a4_10 A hr hd0 hZ (lv_sub hl [] rfl) h)
/-! cJ9_max_7cf53 -/
set_option maxRecDepth 100000 in
set_option maxHeartbeats 4000000 in
theorem zb_J9_max_7cf53_10 {p : Program} {l : Launch} {e : Env} {R : Room} {s : State} {m : MethodId} {args : Array Value} {below : List Frame} {meth : Method} {c : Code} {G : ZG} {base z0 : Nat} {Q : Int32 → Mem → Prop} (A : ∀ d, Amb p R (s.setDrawn d) m args meth c G base z0 cJ9_max_7cf53 yJ9_max_7cf53.cls 2 0 0) (hr : meth.sig.returnType = (some .int)) {d0 : Drawn} {H : Heap} {locs : List Loc} {cells slots : Nat} {ls : Array Slot} {t0 : Int32} {M : Mem} (hd0 : s.drawn.sameBut d0 lw_cs) (hZ : ZH G true base s.heap M H locs) (hl : lv_has ls 2 []) (h : wp_J9_max_7cf53_10 t0 M Q) : W p l e R (s.setDrawn d0) m args below meth c H locs cells slots (ZEnd below G true base z0 (qI Q) args s) (F0 m 10 ls [.int t0]) := by
  have hx := (A d0).1
  have hb := (A d0).2.1
  unfold wp_J9_max_7cf53_10 at h
  exact z_iret A hd0 hZ hr ⟨_, rfl, h⟩ dJ9_max_7cf53_10
set_option maxRecDepth 100000 in
set_option maxHeartbeats 4000000 in
theorem c_J9_max_7cf53 (l : Launch) (G : ZG) (base : Nat) (M : Mem) (x0 : Int32) (x1 : Int32) (Q : Int32 → Mem → Prop) (h : wp_J9_max_7cf53 x0 x1 M Q) : ZMet l yJ9_max_7cf53 cJ9_max_7cf53 2 (some .int) 0 0 G true base M [.int x0, .int x1] (qI Q) := by
  refine z_start (by decide +kernel) (Nat.le_of_ble_eq_true rfl) k_co_yJ9_max_7cf53 ?_
  intro p e s m below meth c R d0 H locs cells slots ls A hr hn hd0 hZ hl
  have hx := (A d0).1
  have hb := (A d0).2.1
  have hl : lv_has ls 2 [(0, .int x0), (1, .int x1)] := hl
  unfold wp_J9_max_7cf53 at h
  refine lv_iload_n hx hb dJ9_max_7cf53_0 rfl (lv_at hl 0 rfl) ?_
  refine lv_iload_n hx hb dJ9_max_7cf53_1 rfl (lv_at hl 1 rfl) ?_
  refine lv_icmp_lt (tgt := 9) hx hb dJ9_max_7cf53_2 (by decide) (fun hc => ?_) (fun hc => ?_)
  · replace h := h.1 hc
    refine lv_iload_n hx hb dJ9_max_7cf53_9 rfl (lv_at hl 1 rfl) ?_
    exact (zb_J9_max_7cf53_10 A hr hd0 hZ (lv_sub hl [] rfl) h)
  · replace h := h.2 hc
    refine lv_iload_n hx hb dJ9_max_7cf53_5 rfl (lv_at hl 0 rfl) ?_
    refine lv_goto (tgt := 10) hx hb dJ9_max_7cf53_6 (by decide) ?_
    exact (zb_J9_max_7cf53_10 A hr hd0 hZ (lv_sub hl [] rfl) h)
/-! cX2_greatestMiss -/
set_option maxRecDepth 100000 in
set_option maxHeartbeats 4000000 in
theorem zb_X2_greatestMiss_13 {p : Program} {l : Launch} {e : Env} {R : Room} {s : State} {m : MethodId} {args : Array Value} {below : List Frame} {meth : Method} {c : Code} {G : ZG} {base z0 : Nat} {Q : Int32 → Mem → Prop} (A : ∀ d, Amb p R (s.setDrawn d) m args meth c G base z0 cX2_greatestMiss yX2_greatestMiss.cls 7 2 49) (hr : meth.sig.returnType = (some .int)) {K58 : Int32 → Mem → Prop} :
  ∀ (n : Nat) {d0 : Drawn} {H : Heap} {locs : List Loc} {cells slots : Nat} {ls : Array Slot} {x0 : Nat} {x1 : Option Nat} {x2 : Int64} {x4 : Int32} {x5 : Int32} {M : Mem} (ho_x0 : isO M x0 2) (hd0 : s.drawn.sameBut d0 lw_cs) (hZ : ZH G true base s.heap M H locs) (hl : lv_has ls 7 [(0, .ref (base + x0)), (1, vr base x1), (2, .long x2), (4, .int x4), (5, .int x5)]) (h : wp_X2_greatestMiss_13 n x0 x1 x2 x4 x5 M Q K58) (hK58 : ∀ {d0 : Drawn} {H : Heap} {locs : List Loc} {cells slots : Nat} {ls : Array Slot} {x4 : Int32} {M : Mem}, s.drawn.sameBut d0 lw_cs → ZH G true base s.heap M H locs → lv_has ls 7 [(4, .int x4)] → K58 x4 M → W p l e R (s.setDrawn d0) m args below meth c H locs cells slots (ZEnd below G true base z0 (qI Q) args s) (F0 m 58 ls [])), W p l e R (s.setDrawn d0) m args below meth c H locs cells slots (ZEnd below G true base z0 (qI Q) args s) (F0 m 13 ls []) := by
  have hx := (A default).1
  have hb := (A default).2.1
  intro n
  induction n with
  | zero => intro d0 H locs cells slots ls x0 x1 x2 x4 x5 M ho_x0 hd0 hZ hl h hK58; exact h.elim
  | succ n ih =>
    intro d0 H locs cells slots ls x0 x1 x2 x4 x5 M ho_x0 hd0 hZ hl h hK58
    unfold wp_X2_greatestMiss_13 at h
    refine lv_iload hx hb dX2_greatestMiss_13 (lv_at hl 4 rfl) ?_
    refine z_aload_n (base := base) hx hb dX2_greatestMiss_15 rfl (lv_at hl 1 rfl) ?_
    obtain ⟨a1, rfl, ho_a1, h⟩ := h
    refine z_getN (A d0) hZ (ci := 0) (j := 3) ho_a1.1 ho_a1.2 (by decide) (by decide) k_fn_RX2_41 (v := .int (mI M a1 3)) rfl dX2_greatestMiss_16 ?_
    refine lv_icmp_ge (tgt := 58) hx hb dX2_greatestMiss_19 (by decide) (fun hc => ?_) (fun hc => ?_)
    · replace h := h.1 hc
      exact hK58 hd0 hZ (lv_sub hl [3] rfl) h
    · replace h := h.2 hc
      refine lv_aload_n hx hb dX2_greatestMiss_22 rfl (lv_at hl 1 rfl) ?_
      refine lv_aload_n hx hb dX2_greatestMiss_23 rfl (lv_at hl 0 rfl) ?_
      refine lv_aload_n hx hb dX2_greatestMiss_24 rfl (lv_at hl 1 rfl) ?_
      refine lv_iload hx hb dX2_greatestMiss_25 (lv_at hl 4 rfl) ?_
      refine z_callV A hd0 hZ (ci := 2) (nA := 2) (As := [vr base (some a1), .int x5]) (by decide) ho_x0 (c_X2_keyOf l G base M x0 (some a1) x5 _ h) k_ml_RX2_52 k_im_yX2_keyOf k_se_yX2_keyOf k_in_RX2 k_co_yX2_keyOf (by decide +kernel) ⟨by decide, by decide⟩ rfl rfl (Nat.le_of_ble_eq_true rfl) hl dX2_greatestMiss_27 (fun v M2 H locs d0 cells slots hq hd0 hZ hm => ?_)
      clear h
      obtain ⟨j3, rfl, h⟩ := hq
      have ho_x0 := isO_le hm ho_x0
      have ho_a1 := isO_le hm ho_a1
      refine lv_lload_n hx hb dX2_greatestMiss_30 rfl (lv_at hl 2 rfl) ?_
      refine lv_lsub hx hb dX2_greatestMiss_31 ?_
      refine z_callV A hd0 hZ (ci := 0) (nA := 1) (As := [.long (j3 - x2)]) (by decide) ho_a1 (c_X0_guessAway l G base M2 a1 (j3 - x2) _ h) k_ml_RX2_56 k_im_yX0_guessAway k_se_yX0_guessAway k_in_RX0 k_co_yX0_guessAway (by decide +kernel) ⟨by decide, by decide⟩ rfl rfl (Nat.le_of_ble_eq_true rfl) hl dX2_greatestMiss_32 (fun v M4 H locs d0 cells slots hq hd0 hZ hm => ?_)
      clear h
      obtain ⟨i5, rfl, h⟩ := hq
      have ho_x0 := isO_le hm ho_x0
      have ho_a1 := isO_le hm ho_a1
      refine lv_iload hx hb dX2_greatestMiss_35 (lv_at hl 4 rfl) ?_
      refine lv_isub hx hb dX2_greatestMiss_37 ?_
      refine z_callS A hd0 hZ (nA := 1) (As := [.int (i5 - x5)]) (c_J9_abs_0f7a4 l G base M4 (i5 - x5) _ h) k_ml_RX2_60 k_st_yJ9_abs_0f7a4 k_in_RJ9 k_co_yJ9_abs_0f7a4 (by decide +kernel) ⟨by decide, by decide⟩ rfl rfl (Nat.le_of_ble_eq_true rfl) hl dX2_greatestMiss_38 (fun v M6 H locs d0 cells slots hq hd0 hZ hm => ?_)
      clear h
      obtain ⟨i7, rfl, h⟩ := hq
      have ho_x0 := isO_le hm ho_x0
      have ho_a1 := isO_le hm ho_a1
      refine lv_istore (lv' := [(6, .int i7), (0, .ref (base + x0)), (1, .ref (base + a1)), (2, .long x2), (4, .int x4), (5, .int x5)]) hx hb dX2_greatestMiss_41 hl (by decide) rfl (fun ls hl2 => ?_)
      replace hl := hl2
      refine lv_iload hx hb dX2_greatestMiss_43 (lv_at hl 4 rfl) ?_
      refine lv_iload hx hb dX2_greatestMiss_45 (lv_at hl 0 rfl) ?_
      refine z_callS A hd0 hZ (nA := 2) (As := [.int x4, .int i7]) (c_J9_max_7cf53 l G base M6 x4 i7 _ h) k_ml_RX2_66 k_st_yJ9_max_7cf53 k_in_RJ9 k_co_yJ9_max_7cf53 (by decide +kernel) ⟨by decide, by decide⟩ rfl rfl (Nat.le_of_ble_eq_true rfl) hl dX2_greatestMiss_47 (fun v M8 H locs d0 cells slots hq hd0 hZ hm => ?_)
      clear h
      obtain ⟨i9, rfl, h⟩ := hq
      have ho_x0 := isO_le hm ho_x0
      have ho_a1 := isO_le hm ho_a1
      refine lv_istore (lv' := [(4, .int i9), (6, .int i7), (0, .ref (base + x0)), (1, .ref (base + a1)), (2, .long x2), (5, .int x5)]) hx hb dX2_greatestMiss_50 hl (by decide) rfl (fun ls hl2 => ?_)
      replace hl := hl2
      obtain ⟨i10, ei10⟩ : ∃ y : Int32, y = x5 + (1 : Int32) := ⟨_, rfl⟩
      replace h := h i10 ei10
      refine lv_iinc (v := i10) (lv' := [(5, .int i10), (4, .int i9), (6, .int i7), (0, .ref (base + x0)), (1, .ref (base + a1)), (2, .long x2)]) hx hb dX2_greatestMiss_52 hl (k := 5) rfl (by rw [ei10]; rfl) (by decide) rfl (fun ls hl2 => ?_)
      replace hl := hl2
      refine lv_goto (tgt := 13) hx hb dX2_greatestMiss_55 (by decide) ?_
      exact ih ho_x0 hd0 hZ (lv_sub hl [3, 4, 5, 1, 0] rfl) h hK58
set_option maxRecDepth 100000 in
set_option maxHeartbeats 4000000 in
theorem zb_X2_greatestMiss_58 {p : Program} {l : Launch} {e : Env} {R : Room} {s : State} {m : MethodId} {args : Array Value} {below : List Frame} {meth : Method} {c : Code} {G : ZG} {base z0 : Nat} {Q : Int32 → Mem → Prop} (A : ∀ d, Amb p R (s.setDrawn d) m args meth c G base z0 cX2_greatestMiss yX2_greatestMiss.cls 7 2 49) (hr : meth.sig.returnType = (some .int)) {d0 : Drawn} {H : Heap} {locs : List Loc} {cells slots : Nat} {ls : Array Slot} {x4 : Int32} {M : Mem} (hd0 : s.drawn.sameBut d0 lw_cs) (hZ : ZH G true base s.heap M H locs) (hl : lv_has ls 7 [(4, .int x4)]) (h : wp_X2_greatestMiss_58 x4 M Q) : W p l e R (s.setDrawn d0) m args below meth c H locs cells slots (ZEnd below G true base z0 (qI Q) args s) (F0 m 58 ls []) := by
  have hx := (A d0).1
  have hb := (A d0).2.1
  unfold wp_X2_greatestMiss_58 at h
  refine lv_iload hx hb dX2_greatestMiss_58 (lv_at hl 0 rfl) ?_
  exact z_iret A hd0 hZ hr ⟨_, rfl, h⟩ dX2_greatestMiss_60
set_option maxRecDepth 100000 in
set_option maxHeartbeats 4000000 in
theorem c_X2_greatestMiss (l : Launch) (G : ZG) (base : Nat) (M : Mem) (x0 : Nat) (x1 : Option Nat) (Q : Int32 → Mem → Prop) (h : wp_X2_greatestMiss x0 x1 M Q) : ZMet l yX2_greatestMiss cX2_greatestMiss 7 (some .int) 2 49 G true base M [.ref (base + x0), vr base x1] (qI Q) := by
  refine z_start (by decide) (by simp [lg_sl, cat_vr, cat_r, cat_i, cat_l, cat_d]) k_co_yX2_greatestMiss ?_
  intro p e s m below meth c R d0 H locs cells slots ls A hr hn hd0 hZ hl
  have hx := (A d0).1
  have hb := (A d0).2.1
  have hl : lv_has ls 7 [(0, .ref (base + x0)), (1, vr base x1)] := by simpa [lv_args, cat_vr, cat_r, cat_i, cat_l, cat_d] using hl
  unfold wp_X2_greatestMiss at h
  obtain ⟨ho_x0, h⟩ := h
  refine lv_aload_n hx hb dX2_greatestMiss_0 rfl (lv_at hl 0 rfl) ?_
  refine z_aload_n (base := base) hx hb dX2_greatestMiss_1 rfl (lv_at hl 1 rfl) ?_
  refine lv_iconst (v := (0 : Int32)) hx hb dX2_greatestMiss_2 (by decide) ?_
  refine z_callV A hd0 hZ (ci := 2) (nA := 2) (As := [vr base x1, .int (0 : Int32)]) (by decide) ho_x0 (c_X2_keyOf l G base M x0 x1 (0 : Int32) _ h) k_ml_RX2_52 k_im_yX2_keyOf k_se_yX2_keyOf k_in_RX2 k_co_yX2_keyOf (by decide +kernel) ⟨by decide, by decide⟩ rfl rfl (Nat.le_of_ble_eq_true rfl) hl dX2_greatestMiss_3 (fun v M11 H locs d0 cells slots hq hd0 hZ hm => ?_)
  clear h
  obtain ⟨j12, rfl, h⟩ := hq
  have ho_x0 := isO_le hm ho_x0
  refine lv_lstore_n (lv' := [(2, .long j12), (0, .ref (base + x0)), (1, vr base x1)]) hx hb dX2_greatestMiss_6 rfl hl (by decide) (by simp [cat_vr, cat_r, cat_i, cat_l, cat_d]) (fun ls hl2 => ?_)
  replace hl := hl2
  refine lv_iconst (v := (0 : Int32)) hx hb dX2_greatestMiss_7 (by decide) ?_
  refine lv_istore (lv' := [(4, .int (0 : Int32)), (2, .long j12), (0, .ref (base + x0)), (1, vr base x1)]) hx hb dX2_greatestMiss_8 hl (by decide) rfl (fun ls hl2 => ?_)
  replace hl := hl2
  refine lv_iconst (v := (0 : Int32)) hx hb dX2_greatestMiss_10 (by decide) ?_
  refine lv_istore (lv' := [(5, .int (0 : Int32)), (4, .int (0 : Int32)), (2, .long j12), (0, .ref (base + x0)), (1, vr base x1)]) hx hb dX2_greatestMiss_11 hl (by decide) rfl (fun ls hl2 => ?_)
  replace hl := hl2
  exact (Exists.elim h fun kk h => zb_X2_greatestMiss_13 A hr kk ho_x0 hd0 hZ (lv_sub hl [3, 4, 2, 1, 0] rfl) h (fun hd0 hZ hl h => (zb_X2_greatestMiss_58 A hr hd0 hZ hl h)))
/-! cX2_firstKeys -/
set_option maxRecDepth 100000 in
set_option maxHeartbeats 4000000 in
theorem zb_X2_firstKeys_46 {p : Program} {l : Launch} {e : Env} {R : Room} {s : State} {m : MethodId} {args : Array Value} {below : List Frame} {meth : Method} {c : Code} {G : ZG} {base z0 : Nat} {Q : Int32 → Mem → Prop} (A : ∀ d, Amb p R (s.setDrawn d) m args meth c G base z0 cX2_firstKeys yX2_firstKeys.cls 5 1 23) (hr : meth.sig.returnType = (some .int)) {K4 : Nat → Option Nat → Int32 → Int32 → Mem → Prop} {K56 : Int32 → Mem → Prop} {d0 : Drawn} {H : Heap} {locs : List Loc} {cells slots : Nat} {ls : Array Slot} {x0 : Nat} {x1 : Nat} {x2 : Int32} {x3 : Int32} {t0 : Int64} {t1 : Int32} {t2 : Nat} {M : Mem} (ho_x0 : isO M x0 2) (ho_x1 : isA M x1 .long) (ho_t2 : isA M t2 .long) (hd0 : s.drawn.sameBut d0 lw_cs) (hZ : ZH G true base s.heap M H locs) (hl : lv_has ls 5 [(0, .ref (base + x0)), (1, .ref (base + x1)), (2, .int x2), (3, .int x3)]) (h : wp_X2_firstKeys_46 x0 x1 x2 x3 t0 t1 t2 M Q K4 K56) (hK4 : ∀ {d0 : Drawn} {H : Heap} {locs : List Loc} {cells slots : Nat} {ls : Array Slot} {x0 : Nat} {x1 : Option Nat} {x2 : Int32} {x3 : Int32} {M : Mem} (ho_x0 : isO M x0 2), s.drawn.sameBut d0 lw_cs → ZH G true base s.heap M H locs → lv_has ls 5 [(0, .ref (base + x0)), (1, vr base x1), (2, .int x2), (3, .int x3)] → K4 x0 x1 x2 x3 M → W p l e R (s.setDrawn d0) m args below meth c H locs cells slots (ZEnd below G true base z0 (qI Q) args s) (F0 m 4 ls [])) (hK56 : ∀ {d0 : Drawn} {H : Heap} {locs : List Loc} {cells slots : Nat} {ls : Array Slot} {x2 : Int32} {M : Mem}, s.drawn.sameBut d0 lw_cs → ZH G true base s.heap M H locs → lv_has ls 5 [(2, .int x2)] → K56 x2 M → W p l e R (s.setDrawn d0) m args below meth c H locs cells slots (ZEnd below G true base z0 (qI Q) args s) (F0 m 56 ls [])) : W p l e R (s.setDrawn d0) m args below meth c H locs cells slots (ZEnd below G true base z0 (qI Q) args s) (F0 m 46 ls [.long t0, .int t1, .ref (base + t2)]) := by
  have hx := (A d0).1
  have hb := (A d0).2.1
  unfold wp_X2_firstKeys_46 at h
  obtain ⟨hin, h⟩ := h
  obtain ⟨M6, eM6⟩ : ∃ y : Mem, y = sL M t2 t1.toNatClampNeg t0 := ⟨_, rfl⟩
  refine z_last (A d0) hZ ho_t2 hin dX2_firstKeys_46 (fun H locs hZ => ?_)
  rw [← eM6] at hZ
  have hm : mz M6 = mz M := by rw [eM6] <;> rfl
  have ho_x0 := isO_le (Nat.le_of_eq hm.symm) ho_x0
  have ho_x1 := isA_le (Nat.le_of_eq hm.symm) ho_x1
  replace h := h M6 eM6
  obtain ⟨i7, ei7⟩ : ∃ y : Int32, y = x2 + (1 : Int32) := ⟨_, rfl⟩
  replace h := h i7 ei7
  refine lv_iinc (v := i7) (lv' := [(2, .int i7), (0, .ref (base + x0)), (1, .ref (base + x1)), (3, .int x3)]) hx hb dX2_firstKeys_47 hl (k := 2) rfl (by rw [ei7]; rfl) (by decide) rfl (fun ls hl2 => ?_)
  replace hl := hl2
  obtain ⟨i8, ei8⟩ : ∃ y : Int32, y = x3 + (1 : Int32) := ⟨_, rfl⟩
  replace h := h i8 ei8
  refine lv_iinc (v := i8) (lv' := [(3, .int i8), (2, .int i7), (0, .ref (base + x0)), (1, .ref (base + x1))]) hx hb dX2_firstKeys_50 hl (k := 3) rfl (by rw [ei8]; rfl) (by decide) rfl (fun ls hl2 => ?_)
  replace hl := hl2
  refine lv_goto (tgt := 4) hx hb dX2_firstKeys_53 (by decide) ?_
  exact hK4 ho_x0 hd0 hZ (lv_sub hl [2, 3, 1, 0] rfl) h
set_option maxRecDepth 100000 in
set_option maxHeartbeats 4000000 in
theorem zb_X2_firstKeys_56 {p : Program} {l : Launch} {e : Env} {R : Room} {s : State} {m : MethodId} {args : Array Value} {below : List Frame} {meth : Method} {c : Code} {G : ZG} {base z0 : Nat} {Q : Int32 → Mem → Prop} (A : ∀ d, Amb p R (s.setDrawn d) m args meth c G base z0 cX2_firstKeys yX2_firstKeys.cls 5 1 23) (hr : meth.sig.returnType = (some .int)) {d0 : Drawn} {H : Heap} {locs : List Loc} {cells slots : Nat} {ls : Array Slot} {x2 : Int32} {M : Mem} (hd0 : s.drawn.sameBut d0 lw_cs) (hZ : ZH G true base s.heap M H locs) (hl : lv_has ls 5 [(2, .int x2)]) (h : wp_X2_firstKeys_56 x2 M Q) : W p l e R (s.setDrawn d0) m args below meth c H locs cells slots (ZEnd below G true base z0 (qI Q) args s) (F0 m 56 ls []) := by
  have hx := (A d0).1
  have hb := (A d0).2.1
  unfold wp_X2_firstKeys_56 at h
  refine lv_iload_n hx hb dX2_firstKeys_56 rfl (lv_at hl 0 rfl) ?_
  exact z_iret A hd0 hZ hr ⟨_, rfl, h⟩ dX2_firstKeys_57
set_option maxRecDepth 100000 in
set_option maxHeartbeats 4000000 in
theorem zb_X2_firstKeys_4 {p : Program} {l : Launch} {e : Env} {R : Room} {s : State} {m : MethodId} {args : Array Value} {below : List Frame} {meth : Method} {c : Code} {G : ZG} {base z0 : Nat} {Q : Int32 → Mem → Prop} (A : ∀ d, Amb p R (s.setDrawn d) m args meth c G base z0 cX2_firstKeys yX2_firstKeys.cls 5 1 23) (hr : meth.sig.returnType = (some .int)) {K56 : Int32 → Mem → Prop} :
  ∀ (n : Nat) {d0 : Drawn} {H : Heap} {locs : List Loc} {cells slots : Nat} {ls : Array Slot} {x0 : Nat} {x1 : Option Nat} {x2 : Int32} {x3 : Int32} {M : Mem} (ho_x0 : isO M x0 2) (hd0 : s.drawn.sameBut d0 lw_cs) (hZ : ZH G true base s.heap M H locs) (hl : lv_has ls 5 [(0, .ref (base + x0)), (1, vr base x1), (2, .int x2), (3, .int x3)]) (h : wp_X2_firstKeys_4 n x0 x1 x2 x3 M Q K56) (hK56 : ∀ {d0 : Drawn} {H : Heap} {locs : List Loc} {cells slots : Nat} {ls : Array Slot} {x2 : Int32} {M : Mem}, s.drawn.sameBut d0 lw_cs → ZH G true base s.heap M H locs → lv_has ls 5 [(2, .int x2)] → K56 x2 M → W p l e R (s.setDrawn d0) m args below meth c H locs cells slots (ZEnd below G true base z0 (qI Q) args s) (F0 m 56 ls [])), W p l e R (s.setDrawn d0) m args below meth c H locs cells slots (ZEnd below G true base z0 (qI Q) args s) (F0 m 4 ls []) := by
  have hx := (A default).1
  have hb := (A default).2.1
  intro n
  induction n with
  | zero => intro d0 H locs cells slots ls x0 x1 x2 x3 M ho_x0 hd0 hZ hl h hK56; exact h.elim
  | succ n ih =>
    intro d0 H locs cells slots ls x0 x1 x2 x3 M ho_x0 hd0 hZ hl h hK56
    unfold wp_X2_firstKeys_4 at h
    refine lv_iload_n hx hb dX2_firstKeys_4 rfl (lv_at hl 3 rfl) ?_
    refine lv_aload_n hx hb dX2_firstKeys_5 rfl (lv_at hl 0 rfl) ?_
    refine z_get (A d0) hZ (ci := 2) (j := 6) ho_x0.1 ho_x0.2 (by decide) (by decide) k_fl_RX2_18 (v := .int (mI M x0 6)) rfl dX2_firstKeys_6 ?_
    refine lv_icmp_ge (tgt := 56) hx hb dX2_firstKeys_9 (by decide) (fun hc => ?_) (fun hc => ?_)
    · replace h := h.1 hc
      exact hK56 hd0 hZ (lv_sub hl [2] rfl) h
    · replace h := h.2 hc
      refine lv_iload_n hx hb dX2_firstKeys_12 rfl (lv_at hl 3 rfl) ?_
      refine z_aload_n (base := base) hx hb dX2_firstKeys_13 rfl (lv_at hl 1 rfl) ?_
      obtain ⟨a1, rfl, ho_a1, h⟩ := h
      refine z_alen (A d0) hZ ho_a1 1 rfl dX2_firstKeys_14 ?_
      refine lv_icmp_ge (tgt := 56) hx hb dX2_firstKeys_15 (by decide) (fun hc => ?_) (fun hc => ?_)
      · replace h := h.1 hc
        exact hK56 hd0 hZ (lv_sub hl [2] rfl) h
      · replace h := h.2 hc
        refine lv_aload_n hx hb dX2_firstKeys_18 rfl (lv_at hl 0 rfl) ?_
        refine z_get (A d0) hZ (ci := 2) (j := 3) ho_x0.1 ho_x0.2 (by decide) (by decide) k_fl_RX2_34 (v := .ref (base + (x0 + 4))) (zv_fin (zf2_3 ho_x0) rfl) dX2_firstKeys_19 ?_
        refine lv_iload_n hx hb dX2_firstKeys_22 rfl (lv_at hl 3 rfl) ?_
        obtain ⟨hin, h⟩ := h
        refine z_aaldP (A d0) hZ (isA_T4 hZ.k0 ho_x0) hin dX2_firstKeys_23 ?_
        obtain ⟨r2, er2⟩ : ∃ y : Option Nat, y = mR M (x0 + 4) x3.toNatClampNeg := ⟨_, rfl⟩
        rw [← er2]
        replace h := h r2 er2
        refine z_astore (lv' := [(4, vr base r2), (0, .ref (base + x0)), (1, .ref (base + a1)), (2, .int x2), (3, .int x3)]) hx hb dX2_firstKeys_24 hl (by decide) rfl (fun ls hl2 => ?_)
        replace hl := hl2
        refine lv_aload_n hx hb dX2_firstKeys_26 rfl (lv_at hl 2 rfl) ?_
        refine lv_iload_n hx hb dX2_firstKeys_27 rfl (lv_at hl 4 rfl) ?_
        refine z_aload (base := base) hx hb dX2_firstKeys_28 (lv_at hl 0 rfl) ?_
        refine z_ifnonnull (base := base) (tgt := 39) hx hb dX2_firstKeys_30 (by decide) (fun a3 hc => ?_) (fun hc => ?_)
        · replace h := h.2 a3 hc
          subst hc
          refine lv_aload_n hx hb dX2_firstKeys_39 rfl (lv_at hl 1 rfl) ?_
          refine lv_aload hx hb dX2_firstKeys_40 (lv_at hl 0 rfl) ?_
          refine lv_iconst (v := (0 : Int32)) hx hb dX2_firstKeys_42 (by decide) ?_
          refine z_callV A hd0 hZ (ci := 2) (nA := 2) (As := [vr base (some a3), .int (0 : Int32)]) (by decide) ho_x0 (c_X2_keyOf l G base M x0 (some a3) (0 : Int32) _ h) k_ml_RX2_52 k_im_yX2_keyOf k_se_yX2_keyOf k_in_RX2 k_co_yX2_keyOf (by decide +kernel) ⟨by decide, by decide⟩ rfl rfl (Nat.le_of_ble_eq_true rfl) hl dX2_firstKeys_43 (fun v M4 H locs d0 cells slots hq hd0 hZ hm => ?_)
          clear h
          obtain ⟨j5, rfl, h⟩ := hq
          have ho_x0 := isO_le hm ho_x0
          have ho_a1 := isA_le hm ho_a1
          exact (zb_X2_firstKeys_46 A hr ho_x0 ho_a1 ho_a1 hd0 hZ (lv_sub hl [1, 2, 3, 4] rfl) h (fun ho_x0 hd0 hZ hl h => ih ho_x0 hd0 hZ hl h hK56) hK56)
        · replace h := h.1 hc
          subst hc
          refine lv_ldc2 (v := (-9223372036854775808 : Int64)) hx hb (A d0).2.2.2.1 ((A d0).2.2.2.2.1 _ k_lc_RX2_42) dX2_firstKeys_33 ?_
          refine lv_goto (tgt := 46) hx hb dX2_firstKeys_36 (by decide) ?_
          exact (zb_X2_firstKeys_46 A hr ho_x0 ho_a1 ho_a1 hd0 hZ (lv_sub hl [1, 2, 3, 4] rfl) h (fun ho_x0 hd0 hZ hl h => ih ho_x0 hd0 hZ hl h hK56) hK56)
set_option maxRecDepth 100000 in
set_option maxHeartbeats 4000000 in
theorem c_X2_firstKeys (l : Launch) (G : ZG) (base : Nat) (M : Mem) (x0 : Nat) (x1 : Option Nat) (Q : Int32 → Mem → Prop) (h : wp_X2_firstKeys x0 x1 M Q) : ZMet l yX2_firstKeys cX2_firstKeys 5 (some .int) 1 23 G true base M [.ref (base + x0), vr base x1] (qI Q) := by
  refine z_start (by decide) (by simp [lg_sl, cat_vr, cat_r, cat_i, cat_l, cat_d]) k_co_yX2_firstKeys ?_
  intro p e s m below meth c R d0 H locs cells slots ls A hr hn hd0 hZ hl
  have hx := (A d0).1
  have hb := (A d0).2.1
  have hl : lv_has ls 5 [(0, .ref (base + x0)), (1, vr base x1)] := by simpa [lv_args, cat_vr, cat_r, cat_i, cat_l, cat_d] using hl
  unfold wp_X2_firstKeys at h
  obtain ⟨ho_x0, h⟩ := h
  refine lv_iconst (v := (0 : Int32)) hx hb dX2_firstKeys_0 (by decide) ?_
  refine lv_istore_n (lv' := [(2, .int (0 : Int32)), (0, .ref (base + x0)), (1, vr base x1)]) hx hb dX2_firstKeys_1 rfl hl (by decide) (by simp [cat_vr, cat_r, cat_i, cat_l, cat_d]) (fun ls hl2 => ?_)
  replace hl := hl2
  refine lv_iconst (v := (0 : Int32)) hx hb dX2_firstKeys_2 (by decide) ?_
  refine lv_istore_n (lv' := [(3, .int (0 : Int32)), (2, .int (0 : Int32)), (0, .ref (base + x0)), (1, vr base x1)]) hx hb dX2_firstKeys_3 rfl hl (by decide) rfl (fun ls hl2 => ?_)
  replace hl := hl2
  exact (Exists.elim h fun kk h => zb_X2_firstKeys_4 A hr kk ho_x0 hd0 hZ (lv_sub hl [2, 3, 1, 0] rfl) h (fun hd0 hZ hl h => (zb_X2_firstKeys_56 A hr hd0 hZ hl h)))
