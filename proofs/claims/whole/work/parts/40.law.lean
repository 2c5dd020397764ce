set_option maxRecDepth 100000 in
set_option maxHeartbeats 8000000 in
theorem zb_L_law_1359 {p : Program} {l : Launch} {e : Env} {s : State} {m : MethodId} {b L : Nat} {xs : Nat → Int32} {below : List Frame} {meth : Method} {c : Code} {G : ZG} {base : Nat} (A : ∀ d, Amb p room_1 (s.setDrawn d) m #[Value.ref b] meth c G base 0 cL_law RL 4 9 388) (hr : meth.sig.returnType = ret) (hlocks : meth.locks = false) (hX : va_X b L xs s s.heap) (hbl : b < base) (hbase : s.heap.size = base) {K18 : Int32 → Mem → Prop} {d0 : Drawn} {H : Heap} {locs : List Loc} {cells slots : Nat} {ls : Array Slot} {x3 : Int32} {M : Mem} (hd0 : s.drawn.sameBut d0 lw_cs) (hZ : ZH G true base s.heap M H locs) (hl : lv_has ls 4 [(0, .ref b), (1, .ref (base + 0)), (2, .ref (base + 69)), (3, .int x3)]) (h : wp_L_law_1359 x3 M xs L K18) (hK18 : ∀ {d0 : Drawn} {H : Heap} {locs : List Loc} {cells slots : Nat} {ls : Array Slot} {x3 : Int32} {M : Mem}, s.drawn.sameBut d0 lw_cs → ZH G true base s.heap M H locs → lv_has ls 4 [(0, .ref b), (1, .ref (base + 0)), (2, .ref (base + 69)), (3, .int x3)] → K18 x3 M → W p l e room_1 (s.setDrawn d0) m #[Value.ref b] below meth c H locs cells slots (lw_Z below #[Value.ref b] s) (F0 m 18 ls [])) : W p l e room_1 (s.setDrawn d0) m #[Value.ref b] below meth c H locs cells slots (lw_Z below #[Value.ref b] s) (F0 m 1359 ls []) := by
  have hx := (A d0).1
  have hb := (A d0).2.1
  unfold wp_L_law_1359 at h
  obtain ⟨i122, ei122⟩ : ∃ y : Int32, y = x3 + (6 : Int32) := ⟨_, rfl⟩
  replace h := h i122 ei122
  refine lv_iinc (v := i122) (lv' := [(3, .int i122), (0, .ref b), (1, .ref (base + 0)), (2, .ref (base + 69))]) hx hb dL_law_1359 hl (k := 3) rfl (by rw [ei122]; rfl) (by decide) rfl (fun ls hl2 => ?_)
  replace hl := hl2
  refine lv_goto (tgt := 18) hx hb dL_law_1362 (by decide) ?_
  exact hK18 hd0 hZ (lv_sub hl [1, 2, 3, 0] rfl) h
set_option maxRecDepth 100000 in
set_option maxHeartbeats 8000000 in
theorem zb_L_law_1238 {p : Program} {l : Launch} {e : Env} {s : State} {m : MethodId} {b L : Nat} {xs : Nat → Int32} {below : List Frame} {meth : Method} {c : Code} {G : ZG} {base : Nat} (A : ∀ d, Amb p room_1 (s.setDrawn d) m #[Value.ref b] meth c G base 0 cL_law RL 4 9 388) (hr : meth.sig.returnType = ret) (hlocks : meth.locks = false) (hX : va_X b L xs s s.heap) (hbl : b < base) (hbase : s.heap.size = base) {K18 : Int32 → Mem → Prop} {d0 : Drawn} {H : Heap} {locs : List Loc} {cells slots : Nat} {ls : Array Slot} {x3 : Int32} {t0 : Int32} {t1 : Int32} {t2 : Int32} {t3 : Nat} {t4 : Int64} {M : Mem} (ho_t3 : isO M t3 5) (hd0 : s.drawn.sameBut d0 lw_cs) (hZ : ZH G true base s.heap M H locs) (hl : lv_has ls 4 [(0, .ref b), (1, .ref (base + 0)), (2, .ref (base + 69)), (3, .int x3)]) (h : wp_L_law_1238 x3 t0 t1 t2 t3 t4 M xs L K18) (hK18 : ∀ {d0 : Drawn} {H : Heap} {locs : List Loc} {cells slots : Nat} {ls : Array Slot} {x3 : Int32} {M : Mem}, s.drawn.sameBut d0 lw_cs → ZH G true base s.heap M H locs → lv_has ls 4 [(0, .ref b), (1, .ref (base + 0)), (2, .ref (base + 69)), (3, .int x3)] → K18 x3 M → W p l e room_1 (s.setDrawn d0) m #[Value.ref b] below meth c H locs cells slots (lw_Z below #[Value.ref b] s) (F0 m 18 ls [])) : W p l e room_1 (s.setDrawn d0) m #[Value.ref b] below meth c H locs cells slots (lw_Z below #[Value.ref b] s) (F0 m 1238 ls [.int t0, .int t1, .int t2, .ref (base + t3), .long t4]) := by
  have hx := (A d0).1
  have hb := (A d0).2.1
  unfold wp_L_law_1238 at h
  refine z_callV A hd0 hZ (ci := 5) (nA := 3) (As := [.int t2, .int t1, .int t0]) (by decide) ho_t3 (c_X5_key l G base M t3 t2 t1 t0 _ h) k_ml_RL_132 k_im_yX5_key k_se_yX5_key k_in_RX5 k_co_yX5_key (by decide +kernel) ⟨by decide, by decide⟩ rfl rfl (Nat.le_of_ble_eq_true rfl) hl dL_law_1238 (fun v M123 H locs d0 cells slots hq hd0 hZ hm => ?_)
  clear h
  obtain ⟨j124, rfl, h⟩ := hq
  refine z_lc_eq (tgt := 1359) hx hb dL_law_1241 dL_law_1242 (by decide) (fun hc => ?_) (fun hc => ?_)
  · replace h := h.1 hc
    exact (zb_L_law_1359 A hr hlocks hX hbl hbase hd0 hZ (lv_sub hl [0, 1, 2, 3] rfl) h hK18)
  · replace h := h.2 hc
    refine lv_iconst (v := (0 : Int32)) hx hb dL_law_1245 (by decide) ?_
    exact h.elim
set_option maxRecDepth 100000 in
set_option maxHeartbeats 8000000 in
theorem zb_L_law_1211 {p : Program} {l : Launch} {e : Env} {s : State} {m : MethodId} {b L : Nat} {xs : Nat → Int32} {below : List Frame} {meth : Method} {c : Code} {G : ZG} {base : Nat} (A : ∀ d, Amb p room_1 (s.setDrawn d) m #[Value.ref b] meth c G base 0 cL_law RL 4 9 388) (hr : meth.sig.returnType = ret) (hlocks : meth.locks = false) (hX : va_X b L xs s s.heap) (hbl : b < base) (hbase : s.heap.size = base) {K18 : Int32 → Mem → Prop} {d0 : Drawn} {H : Heap} {locs : List Loc} {cells slots : Nat} {ls : Array Slot} {x3 : Int32} {t0 : Int32} {t1 : Int32} {t2 : Int32} {t3 : Nat} {M : Mem} (ho_t3 : isO M t3 4) (hd0 : s.drawn.sameBut d0 lw_cs) (hZ : ZH G true base s.heap M H locs) (hl : lv_has ls 4 [(0, .ref b), (1, .ref (base + 0)), (2, .ref (base + 69)), (3, .int x3)]) (h : wp_L_law_1211 x3 t0 t1 t2 t3 M xs L K18) (hK18 : ∀ {d0 : Drawn} {H : Heap} {locs : List Loc} {cells slots : Nat} {ls : Array Slot} {x3 : Int32} {M : Mem}, s.drawn.sameBut d0 lw_cs → ZH G true base s.heap M H locs → lv_has ls 4 [(0, .ref b), (1, .ref (base + 0)), (2, .ref (base + 69)), (3, .int x3)] → K18 x3 M → W p l e room_1 (s.setDrawn d0) m #[Value.ref b] below meth c H locs cells slots (lw_Z below #[Value.ref b] s) (F0 m 18 ls [])) : W p l e room_1 (s.setDrawn d0) m #[Value.ref b] below meth c H locs cells slots (lw_Z below #[Value.ref b] s) (F0 m 1211 ls [.int t0, .int t1, .int t2, .ref (base + t3)]) := by
  have hx := (A d0).1
  have hb := (A d0).2.1
  unfold wp_L_law_1211 at h
  refine z_callV A hd0 hZ (ci := 4) (nA := 3) (As := [.int t2, .int t1, .int t0]) (by decide) ho_t3 (c_X4_key l G base M t3 t2 t1 t0 _ h) k_ml_RL_128 k_im_yX4_key k_se_yX4_key k_in_RX4 k_co_yX4_key (by decide +kernel) ⟨by decide, by decide⟩ rfl rfl (Nat.le_of_ble_eq_true rfl) hl dL_law_1211 (fun v M125 H locs d0 cells slots hq hd0 hZ hm => ?_)
  clear h
  obtain ⟨j126, rfl, h⟩ := hq
  refine lv_aload_n hx hb dL_law_1214 rfl (lv_at hl 2 rfl) ?_
  refine lv_aload_n hx hb dL_law_1215 rfl (lv_at hl 0 rfl) ?_
  refine lv_iload_n hx hb dL_law_1216 rfl (lv_at hl 3 rfl) ?_
  refine lv_iconst (v := (1 : Int32)) hx hb dL_law_1217 (by decide) ?_
  refine lv_iadd hx hb dL_law_1218 ?_
  obtain ⟨hin, h⟩ := h
  refine z_sld hx hb hX hbl hZ hin dL_law_1219 ?_
  refine lv_aload_n hx hb dL_law_1220 rfl (lv_at hl 0 rfl) ?_
  refine lv_iload_n hx hb dL_law_1221 rfl (lv_at hl 3 rfl) ?_
  refine lv_iconst (v := (2 : Int32)) hx hb dL_law_1222 (by decide) ?_
  refine lv_iadd hx hb dL_law_1223 ?_
  obtain ⟨hin, h⟩ := h
  refine z_sld hx hb hX hbl hZ hin dL_law_1224 ?_
  refine lv_aload_n hx hb dL_law_1225 rfl (lv_at hl 0 rfl) ?_
  refine lv_iload_n hx hb dL_law_1226 rfl (lv_at hl 3 rfl) ?_
  refine lv_iconst (v := (3 : Int32)) hx hb dL_law_1227 (by decide) ?_
  refine lv_iadd hx hb dL_law_1228 ?_
  obtain ⟨hin, h⟩ := h
  refine z_sld hx hb hX hbl hZ hin dL_law_1229 ?_
  refine lv_if_eq (tgt := 1237) hx hb dL_law_1230 (by decide) (fun hc => ?_) (fun hc => ?_)
  · replace h := h.1 hc
    refine lv_iconst (v := (0 : Int32)) hx hb dL_law_1237 (by decide) ?_
    exact (zb_L_law_1238 A hr hlocks hX hbl hbase (isO_c (a := 69) hZ.k0 (by decide) rfl) hd0 hZ (lv_sub hl [0, 1, 2, 3] rfl) h hK18)
  · replace h := h.2 hc
    refine lv_iconst (v := (1 : Int32)) hx hb dL_law_1233 (by decide) ?_
    refine lv_goto (tgt := 1238) hx hb dL_law_1234 (by decide) ?_
    exact (zb_L_law_1238 A hr hlocks hX hbl hbase (isO_c (a := 69) hZ.k0 (by decide) rfl) hd0 hZ (lv_sub hl [0, 1, 2, 3] rfl) h hK18)
set_option maxRecDepth 100000 in
set_option maxHeartbeats 8000000 in
theorem zb_L_law_18 {p : Program} {l : Launch} {e : Env} {s : State} {m : MethodId} {b L : Nat} {xs : Nat → Int32} {below : List Frame} {meth : Method} {c : Code} {G : ZG} {base : Nat} (A : ∀ d, Amb p room_1 (s.setDrawn d) m #[Value.ref b] meth c G base 0 cL_law RL 4 9 388) (hr : meth.sig.returnType = ret) (hlocks : meth.locks = false) (hX : va_X b L xs s s.heap) (hbl : b < base) (hbase : s.heap.size = base) :
  ∀ (n : Nat) {d0 : Drawn} {H : Heap} {locs : List Loc} {cells slots : Nat} {ls : Array Slot} {x3 : Int32} {M : Mem} (hd0 : s.drawn.sameBut d0 lw_cs) (hZ : ZH G true base s.heap M H locs) (hl : lv_has ls 4 [(0, .ref b), (1, .ref (base + 0)), (2, .ref (base + 69)), (3, .int x3)]) (h : wp_L_law_18 n x3 M xs L), W p l e room_1 (s.setDrawn d0) m #[Value.ref b] below meth c H locs cells slots (lw_Z below #[Value.ref b] s) (F0 m 18 ls []) := by
  have hx := (A default).1
  have hb := (A default).2.1
  intro n
  induction n with
  | zero => intro d0 H locs cells slots ls x3 M hd0 hZ hl h; exact h.elim
  | succ n ih =>
    intro d0 H locs cells slots ls x3 M hd0 hZ hl h
    unfold wp_L_law_18 at h
    refine lv_iload_n hx hb dL_law_18 rfl (lv_at hl 3 rfl) ?_
    refine lv_aload_n hx hb dL_law_19 rfl (lv_at hl 0 rfl) ?_
    refine z_slen hx hb hX hbl hZ dL_law_20 ?_
    refine lv_bipush (v := (6 : Int32)) hx hb dL_law_21 (by decide) ?_
    refine lv_isub hx hb dL_law_23 ?_
    refine lv_icmp_gt (tgt := 1365) hx hb dL_law_24 (by decide) (fun hc => ?_) (fun hc => ?_)
    · replace h := h.1 hc
      refine lv_iconst (v := (1 : Int32)) hx hb dL_law_1365 (by decide) ?_
      exact z_lawret A hd0 hZ hbase hr hlocks dL_law_1366
    · replace h := h.2 hc
      refine lv_aload_n hx hb dL_law_27 rfl (lv_at hl 0 rfl) ?_
      refine lv_iload_n hx hb dL_law_28 rfl (lv_at hl 3 rfl) ?_
      obtain ⟨hin, h⟩ := h
      refine z_sld hx hb hX hbl hZ hin dL_law_29 ?_
      refine lv_bipush (v := (31 : Int32)) hx hb dL_law_30 (by decide) ?_
      refine lv_iand hx hb dL_law_32 ?_
      by_cases hc0 : (xs x3.toNatClampNeg) &&& (31 : Int32) = 0
      · refine lv_tableIn (off := 135) (tgt := 168) hx hb dL_law_33 (by rw [hc0]; decide) (by rw [hc0]; decide) (by rw [hc0]; rfl) (by decide) ?_
        replace h := h.1 hc0
        refine lv_aload_n hx hb dL_law_168 rfl (lv_at hl 1 rfl) ?_
        refine lv_aload_n hx hb dL_law_169 rfl (lv_at hl 0 rfl) ?_
        refine lv_iload_n hx hb dL_law_170 rfl (lv_at hl 3 rfl) ?_
        refine lv_iconst (v := (1 : Int32)) hx hb dL_law_171 (by decide) ?_
        refine lv_iadd hx hb dL_law_172 ?_
        obtain ⟨hin, h⟩ := h
        refine z_sld hx hb hX hbl hZ hin dL_law_173 ?_
        refine lv_i2l hx hb dL_law_174 rfl ?_
        refine lv_bipush (v := (32 : Int32)) hx hb dL_law_175 (by decide) ?_
        refine lv_lshl hx hb dL_law_177 rfl ?_
        refine lv_aload_n hx hb dL_law_178 rfl (lv_at hl 0 rfl) ?_
        refine lv_iload_n hx hb dL_law_179 rfl (lv_at hl 3 rfl) ?_
        refine lv_iconst (v := (2 : Int32)) hx hb dL_law_180 (by decide) ?_
        refine lv_iadd hx hb dL_law_181 ?_
        obtain ⟨hin, h⟩ := h
        refine z_sld hx hb hX hbl hZ hin dL_law_182 ?_
        refine lv_i2l hx hb dL_law_183 rfl ?_
        refine lv_ldc2 (v := (4294967295 : Int64)) hx hb (A d0).2.2.2.1 ((A d0).2.2.2.2.1 _ k_lc_RL_13) dL_law_184 ?_
        refine lv_land hx hb dL_law_187 ?_
        refine lv_lor hx hb dL_law_188 ?_
        refine z_callV A hd0 hZ (ci := 4) (nA := 1) (As := [.long ((((xs (x3 + (1 : Int32)).toNatClampNeg).toInt64) <<< ((32 : Int32).toInt64 &&& 63)) ||| (((xs (x3 + (2 : Int32)).toNatClampNeg).toInt64) &&& (4294967295 : Int64)))]) (by decide) (isO_c (a := 0) hZ.k0 (by decide) rfl) (c_X4_load l G base M 0 ((((xs (x3 + (1 : Int32)).toNatClampNeg).toInt64) <<< ((32 : Int32).toInt64 &&& 63)) ||| (((xs (x3 + (2 : Int32)).toNatClampNeg).toInt64) &&& (4294967295 : Int64))) _ h) k_ml_RL_15 k_im_yX4_load k_se_yX4_load k_in_RX4 k_co_yX4_load (by decide +kernel) ⟨by decide, by decide⟩ rfl rfl (Nat.le_of_ble_eq_true rfl) hl dL_law_189 (fun v M127 H locs d0 cells slots hq hd0 hZ hm => ?_)
        clear h
        obtain ⟨i128, rfl, h⟩ := hq
        refine lv_aload_n hx hb dL_law_192 rfl (lv_at hl 2 rfl) ?_
        refine lv_aload_n hx hb dL_law_193 rfl (lv_at hl 0 rfl) ?_
        refine lv_iload_n hx hb dL_law_194 rfl (lv_at hl 3 rfl) ?_
        refine lv_iconst (v := (1 : Int32)) hx hb dL_law_195 (by decide) ?_
        refine lv_iadd hx hb dL_law_196 ?_
        obtain ⟨hin, h⟩ := h
        refine z_sld hx hb hX hbl hZ hin dL_law_197 ?_
        refine lv_i2l hx hb dL_law_198 rfl ?_
        refine lv_bipush (v := (32 : Int32)) hx hb dL_law_199 (by decide) ?_
        refine lv_lshl hx hb dL_law_201 rfl ?_
        refine lv_aload_n hx hb dL_law_202 rfl (lv_at hl 0 rfl) ?_
        refine lv_iload_n hx hb dL_law_203 rfl (lv_at hl 3 rfl) ?_
        refine lv_iconst (v := (2 : Int32)) hx hb dL_law_204 (by decide) ?_
        refine lv_iadd hx hb dL_law_205 ?_
        obtain ⟨hin, h⟩ := h
        refine z_sld hx hb hX hbl hZ hin dL_law_206 ?_
        refine lv_i2l hx hb dL_law_207 rfl ?_
        refine lv_ldc2 (v := (4294967295 : Int64)) hx hb (A d0).2.2.2.1 ((A d0).2.2.2.2.1 _ k_lc_RL_13) dL_law_208 ?_
        refine lv_land hx hb dL_law_211 ?_
        refine lv_lor hx hb dL_law_212 ?_
        refine z_callV A hd0 hZ (ci := 5) (nA := 1) (As := [.long ((((xs (x3 + (1 : Int32)).toNatClampNeg).toInt64) <<< ((32 : Int32).toInt64 &&& 63)) ||| (((xs (x3 + (2 : Int32)).toNatClampNeg).toInt64) &&& (4294967295 : Int64)))]) (by decide) (isO_c (a := 69) hZ.k0 (by decide) rfl) (c_X5_load l G base M127 69 ((((xs (x3 + (1 : Int32)).toNatClampNeg).toInt64) <<< ((32 : Int32).toInt64 &&& 63)) ||| (((xs (x3 + (2 : Int32)).toNatClampNeg).toInt64) &&& (4294967295 : Int64))) _ h) k_ml_RL_19 k_im_yX5_load k_se_yX5_load k_in_RX5 k_co_yX5_load (by decide +kernel) ⟨by decide, by decide⟩ rfl rfl (Nat.le_of_ble_eq_true rfl) hl dL_law_213 (fun v M129 H locs d0 cells slots hq hd0 hZ hm => ?_)
        clear h
        obtain ⟨i130, rfl, h⟩ := hq
        refine lv_icmp_eq (tgt := 1359) hx hb dL_law_216 (by decide) (fun hc => ?_) (fun hc => ?_)
        · replace h := h.1 hc
          exact (zb_L_law_1359 A hr hlocks hX hbl hbase hd0 hZ (lv_sub hl [0, 1, 2, 3] rfl) h (fun hd0 hZ hl h => ih hd0 hZ hl h))
        · replace h := h.2 hc
          refine lv_iconst (v := (0 : Int32)) hx hb dL_law_219 (by decide) ?_
          exact h.elim
      by_cases hc1 : (xs x3.toNatClampNeg) &&& (31 : Int32) = 1
      · refine lv_tableIn (off := 188) (tgt := 221) hx hb dL_law_33 (by rw [hc1]; decide) (by rw [hc1]; decide) (by rw [hc1]; rfl) (by decide) ?_
        replace h := h.2.1 hc1
        refine lv_aload_n hx hb dL_law_221 rfl (lv_at hl 1 rfl) ?_
        refine lv_aload_n hx hb dL_law_222 rfl (lv_at hl 0 rfl) ?_
        refine lv_iload_n hx hb dL_law_223 rfl (lv_at hl 3 rfl) ?_
        refine lv_iconst (v := (1 : Int32)) hx hb dL_law_224 (by decide) ?_
        refine lv_iadd hx hb dL_law_225 ?_
        obtain ⟨hin, h⟩ := h
        refine z_sld hx hb hX hbl hZ hin dL_law_226 ?_
        refine lv_i2l hx hb dL_law_227 rfl ?_
        refine lv_bipush (v := (32 : Int32)) hx hb dL_law_228 (by decide) ?_
        refine lv_lshl hx hb dL_law_230 rfl ?_
        refine lv_aload_n hx hb dL_law_231 rfl (lv_at hl 0 rfl) ?_
        refine lv_iload_n hx hb dL_law_232 rfl (lv_at hl 3 rfl) ?_
        refine lv_iconst (v := (2 : Int32)) hx hb dL_law_233 (by decide) ?_
        refine lv_iadd hx hb dL_law_234 ?_
        obtain ⟨hin, h⟩ := h
        refine z_sld hx hb hX hbl hZ hin dL_law_235 ?_
        refine lv_i2l hx hb dL_law_236 rfl ?_
        refine lv_ldc2 (v := (4294967295 : Int64)) hx hb (A d0).2.2.2.1 ((A d0).2.2.2.2.1 _ k_lc_RL_13) dL_law_237 ?_
        refine lv_land hx hb dL_law_240 ?_
        refine lv_lor hx hb dL_law_241 ?_
        refine lv_aload_n hx hb dL_law_242 rfl (lv_at hl 0 rfl) ?_
        refine lv_iload_n hx hb dL_law_243 rfl (lv_at hl 3 rfl) ?_
        refine lv_iconst (v := (3 : Int32)) hx hb dL_law_244 (by decide) ?_
        refine lv_iadd hx hb dL_law_245 ?_
        obtain ⟨hin, h⟩ := h
        refine z_sld hx hb hX hbl hZ hin dL_law_246 ?_
        refine lv_i2l hx hb dL_law_247 rfl ?_
        refine lv_bipush (v := (32 : Int32)) hx hb dL_law_248 (by decide) ?_
        refine lv_lshl hx hb dL_law_250 rfl ?_
        refine lv_aload_n hx hb dL_law_251 rfl (lv_at hl 0 rfl) ?_
        refine lv_iload_n hx hb dL_law_252 rfl (lv_at hl 3 rfl) ?_
        refine lv_iconst (v := (4 : Int32)) hx hb dL_law_253 (by decide) ?_
        refine lv_iadd hx hb dL_law_254 ?_
        obtain ⟨hin, h⟩ := h
        refine z_sld hx hb hX hbl hZ hin dL_law_255 ?_
        refine lv_i2l hx hb dL_law_256 rfl ?_
        refine lv_ldc2 (v := (4294967295 : Int64)) hx hb (A d0).2.2.2.1 ((A d0).2.2.2.2.1 _ k_lc_RL_13) dL_law_257 ?_
        refine lv_land hx hb dL_law_260 ?_
        refine lv_lor hx hb dL_law_261 ?_
        refine lv_aload_n hx hb dL_law_262 rfl (lv_at hl 0 rfl) ?_
        refine lv_iload_n hx hb dL_law_263 rfl (lv_at hl 3 rfl) ?_
        refine lv_iconst (v := (5 : Int32)) hx hb dL_law_264 (by decide) ?_
        refine lv_iadd hx hb dL_law_265 ?_
        obtain ⟨hin, h⟩ := h
        refine z_sld hx hb hX hbl hZ hin dL_law_266 ?_
        refine z_callV A hd0 hZ (ci := 4) (nA := 3) (As := [.long ((((xs (x3 + (1 : Int32)).toNatClampNeg).toInt64) <<< ((32 : Int32).toInt64 &&& 63)) ||| (((xs (x3 + (2 : Int32)).toNatClampNeg).toInt64) &&& (4294967295 : Int64))), .long ((((xs (x3 + (3 : Int32)).toNatClampNeg).toInt64) <<< ((32 : Int32).toInt64 &&& 63)) ||| (((xs (x3 + (4 : Int32)).toNatClampNeg).toInt64) &&& (4294967295 : Int64))), .int (xs (x3 + (5 : Int32)).toNatClampNeg)]) (by decide) (isO_c (a := 0) hZ.k0 (by decide) rfl) (c_X4_fill l G base M 0 ((((xs (x3 + (1 : Int32)).toNatClampNeg).toInt64) <<< ((32 : Int32).toInt64 &&& 63)) ||| (((xs (x3 + (2 : Int32)).toNatClampNeg).toInt64) &&& (4294967295 : Int64))) ((((xs (x3 + (3 : Int32)).toNatClampNeg).toInt64) <<< ((32 : Int32).toInt64 &&& 63)) ||| (((xs (x3 + (4 : Int32)).toNatClampNeg).toInt64) &&& (4294967295 : Int64))) (xs (x3 + (5 : Int32)).toNatClampNeg) _ h) k_ml_RL_20 k_im_yX4_fill k_se_yX4_fill k_in_RX4 k_co_yX4_fill (by decide +kernel) ⟨by decide, by decide⟩ rfl rfl (Nat.le_of_ble_eq_true rfl) hl dL_law_267 (fun v M131 H locs d0 cells slots hq hd0 hZ hm => ?_)
        clear h
        obtain ⟨i132, rfl, h⟩ := hq
        refine lv_aload_n hx hb dL_law_270 rfl (lv_at hl 2 rfl) ?_
        refine lv_aload_n hx hb dL_law_271 rfl (lv_at hl 0 rfl) ?_
        refine lv_iload_n hx hb dL_law_272 rfl (lv_at hl 3 rfl) ?_
        refine lv_iconst (v := (1 : Int32)) hx hb dL_law_273 (by decide) ?_
        refine lv_iadd hx hb dL_law_274 ?_
        obtain ⟨hin, h⟩ := h
        refine z_sld hx hb hX hbl hZ hin dL_law_275 ?_
        refine lv_i2l hx hb dL_law_276 rfl ?_
        refine lv_bipush (v := (32 : Int32)) hx hb dL_law_277 (by decide) ?_
        refine lv_lshl hx hb dL_law_279 rfl ?_
        refine lv_aload_n hx hb dL_law_280 rfl (lv_at hl 0 rfl) ?_
        refine lv_iload_n hx hb dL_law_281 rfl (lv_at hl 3 rfl) ?_
        refine lv_iconst (v := (2 : Int32)) hx hb dL_law_282 (by decide) ?_
        refine lv_iadd hx hb dL_law_283 ?_
        obtain ⟨hin, h⟩ := h
        refine z_sld hx hb hX hbl hZ hin dL_law_284 ?_
        refine lv_i2l hx hb dL_law_285 rfl ?_
        refine lv_ldc2 (v := (4294967295 : Int64)) hx hb (A d0).2.2.2.1 ((A d0).2.2.2.2.1 _ k_lc_RL_13) dL_law_286 ?_
        refine lv_land hx hb dL_law_289 ?_
        refine lv_lor hx hb dL_law_290 ?_
        refine lv_aload_n hx hb dL_law_291 rfl (lv_at hl 0 rfl) ?_
        refine lv_iload_n hx hb dL_law_292 rfl (lv_at hl 3 rfl) ?_
        refine lv_iconst (v := (3 : Int32)) hx hb dL_law_293 (by decide) ?_
        refine lv_iadd hx hb dL_law_294 ?_
        obtain ⟨hin, h⟩ := h
        refine z_sld hx hb hX hbl hZ hin dL_law_295 ?_
        refine lv_i2l hx hb dL_law_296 rfl ?_
        refine lv_bipush (v := (32 : Int32)) hx hb dL_law_297 (by decide) ?_
        refine lv_lshl hx hb dL_law_299 rfl ?_
        refine lv_aload_n hx hb dL_law_300 rfl (lv_at hl 0 rfl) ?_
        refine lv_iload_n hx hb dL_law_301 rfl (lv_at hl 3 rfl) ?_
        refine lv_iconst (v := (4 : Int32)) hx hb dL_law_302 (by decide) ?_
        refine lv_iadd hx hb dL_law_303 ?_
        obtain ⟨hin, h⟩ := h
        refine z_sld hx hb hX hbl hZ hin dL_law_304 ?_
        refine lv_i2l hx hb dL_law_305 rfl ?_
        refine lv_ldc2 (v := (4294967295 : Int64)) hx hb (A d0).2.2.2.1 ((A d0).2.2.2.2.1 _ k_lc_RL_13) dL_law_306 ?_
        refine lv_land hx hb dL_law_309 ?_
        refine lv_lor hx hb dL_law_310 ?_
        refine lv_aload_n hx hb dL_law_311 rfl (lv_at hl 0 rfl) ?_
        refine lv_iload_n hx hb dL_law_312 rfl (lv_at hl 3 rfl) ?_
        refine lv_iconst (v := (5 : Int32)) hx hb dL_law_313 (by decide) ?_
        refine lv_iadd hx hb dL_law_314 ?_
        obtain ⟨hin, h⟩ := h
        refine z_sld hx hb hX hbl hZ hin dL_law_315 ?_
        refine z_callV A hd0 hZ (ci := 5) (nA := 3) (As := [.long ((((xs (x3 + (1 : Int32)).toNatClampNeg).toInt64) <<< ((32 : Int32).toInt64 &&& 63)) ||| (((xs (x3 + (2 : Int32)).toNatClampNeg).toInt64) &&& (4294967295 : Int64))), .long ((((xs (x3 + (3 : Int32)).toNatClampNeg).toInt64) <<< ((32 : Int32).toInt64 &&& 63)) ||| (((xs (x3 + (4 : Int32)).toNatClampNeg).toInt64) &&& (4294967295 : Int64))), .int (xs (x3 + (5 : Int32)).toNatClampNeg)]) (by decide) (isO_c (a := 69) hZ.k0 (by decide) rfl) (c_X5_fill l G base M131 69 ((((xs (x3 + (1 : Int32)).toNatClampNeg).toInt64) <<< ((32 : Int32).toInt64 &&& 63)) ||| (((xs (x3 + (2 : Int32)).toNatClampNeg).toInt64) &&& (4294967295 : Int64))) ((((xs (x3 + (3 : Int32)).toNatClampNeg).toInt64) <<< ((32 : Int32).toInt64 &&& 63)) ||| (((xs (x3 + (4 : Int32)).toNatClampNeg).toInt64) &&& (4294967295 : Int64))) (xs (x3 + (5 : Int32)).toNatClampNeg) _ h) k_ml_RL_24 k_im_yX5_fill k_se_yX5_fill k_in_RX5 k_co_yX5_fill (by decide +kernel) ⟨by decide, by decide⟩ rfl rfl (Nat.le_of_ble_eq_true rfl) hl dL_law_316 (fun v M133 H locs d0 cells slots hq hd0 hZ hm => ?_)
        clear h
        obtain ⟨i134, rfl, h⟩ := hq
        refine lv_icmp_eq (tgt := 1359) hx hb dL_law_319 (by decide) (fun hc => ?_) (fun hc => ?_)
        · replace h := h.1 hc
          exact (zb_L_law_1359 A hr hlocks hX hbl hbase hd0 hZ (lv_sub hl [0, 1, 2, 3] rfl) h (fun hd0 hZ hl h => ih hd0 hZ hl h))
        · replace h := h.2 hc
          refine lv_iconst (v := (0 : Int32)) hx hb dL_law_322 (by decide) ?_
          exact h.elim
      by_cases hc2 : (xs x3.toNatClampNeg) &&& (31 : Int32) = 2
      · refine lv_tableIn (off := 291) (tgt := 324) hx hb dL_law_33 (by rw [hc2]; decide) (by rw [hc2]; decide) (by rw [hc2]; rfl) (by decide) ?_
        replace h := h.2.2.1 hc2
        refine lv_aload_n hx hb dL_law_324 rfl (lv_at hl 1 rfl) ?_
        refine z_callV A hd0 hZ (ci := 4) (nA := 0) (As := []) (by decide) (isO_c (a := 0) hZ.k0 (by decide) rfl) (c_X4_wipe l G base M 0 _ h) k_ml_RL_25 k_im_yX4_wipe k_se_yX4_wipe k_in_RX4 k_co_yX4_wipe (by decide +kernel) ⟨by decide, by decide⟩ rfl rfl (Nat.le_of_ble_eq_true rfl) hl dL_law_325 (fun v M135 H locs d0 cells slots hq hd0 hZ hm => ?_)
        clear h
        obtain ⟨i136, rfl, h⟩ := hq
        refine lv_aload_n hx hb dL_law_328 rfl (lv_at hl 2 rfl) ?_
        refine z_callV A hd0 hZ (ci := 5) (nA := 0) (As := []) (by decide) (isO_c (a := 69) hZ.k0 (by decide) rfl) (c_X5_wipe l G base M135 69 _ h) k_ml_RL_29 k_im_yX5_wipe k_se_yX5_wipe k_in_RX5 k_co_yX5_wipe (by decide +kernel) ⟨by decide, by decide⟩ rfl rfl (Nat.le_of_ble_eq_true rfl) hl dL_law_329 (fun v M137 H locs d0 cells slots hq hd0 hZ hm => ?_)
        clear h
        obtain ⟨i138, rfl, h⟩ := hq
        refine lv_icmp_eq (tgt := 1359) hx hb dL_law_332 (by decide) (fun hc => ?_) (fun hc => ?_)
        · replace h := h.1 hc
          exact (zb_L_law_1359 A hr hlocks hX hbl hbase hd0 hZ (lv_sub hl [0, 1, 2, 3] rfl) h (fun hd0 hZ hl h => ih hd0 hZ hl h))
        · replace h := h.2 hc
          refine lv_iconst (v := (0 : Int32)) hx hb dL_law_335 (by decide) ?_
          exact h.elim
      by_cases hc3 : (xs x3.toNatClampNeg) &&& (31 : Int32) = 3
      · refine lv_tableIn (off := 304) (tgt := 337) hx hb dL_law_33 (by rw [hc3]; decide) (by rw [hc3]; decide) (by rw [hc3]; rfl) (by decide) ?_
        replace h := h.2.2.2.1 hc3
        refine lv_aload_n hx hb dL_law_337 rfl (lv_at hl 1 rfl) ?_
        refine lv_aload_n hx hb dL_law_338 rfl (lv_at hl 0 rfl) ?_
        refine lv_iload_n hx hb dL_law_339 rfl (lv_at hl 3 rfl) ?_
        refine lv_iconst (v := (1 : Int32)) hx hb dL_law_340 (by decide) ?_
        refine lv_iadd hx hb dL_law_341 ?_
        obtain ⟨hin, h⟩ := h
        refine z_sld hx hb hX hbl hZ hin dL_law_342 ?_
        refine z_callV A hd0 hZ (ci := 4) (nA := 1) (As := [.int (xs (x3 + (1 : Int32)).toNatClampNeg)]) (by decide) (isO_c (a := 0) hZ.k0 (by decide) rfl) (c_X4_margin l G base M 0 (xs (x3 + (1 : Int32)).toNatClampNeg) _ h) k_ml_RL_30 k_im_yX4_margin k_se_yX4_margin k_in_RX4 k_co_yX4_margin (by decide +kernel) ⟨by decide, by decide⟩ rfl rfl (Nat.le_of_ble_eq_true rfl) hl dL_law_343 (fun v M139 H locs d0 cells slots hq hd0 hZ hm => ?_)
        clear h
        obtain ⟨i140, rfl, h⟩ := hq
        refine lv_aload_n hx hb dL_law_346 rfl (lv_at hl 2 rfl) ?_
        refine lv_aload_n hx hb dL_law_347 rfl (lv_at hl 0 rfl) ?_
        refine lv_iload_n hx hb dL_law_348 rfl (lv_at hl 3 rfl) ?_
        refine lv_iconst (v := (1 : Int32)) hx hb dL_law_349 (by decide) ?_
        refine lv_iadd hx hb dL_law_350 ?_
        obtain ⟨hin, h⟩ := h
        refine z_sld hx hb hX hbl hZ hin dL_law_351 ?_
        refine z_callV A hd0 hZ (ci := 5) (nA := 1) (As := [.int (xs (x3 + (1 : Int32)).toNatClampNeg)]) (by decide) (isO_c (a := 69) hZ.k0 (by decide) rfl) (c_X5_margin l G base M139 69 (xs (x3 + (1 : Int32)).toNatClampNeg) _ h) k_ml_RL_34 k_im_yX5_margin k_se_yX5_margin k_in_RX5 k_co_yX5_margin (by decide +kernel) ⟨by decide, by decide⟩ rfl rfl (Nat.le_of_ble_eq_true rfl) hl dL_law_352 (fun v M141 H locs d0 cells slots hq hd0 hZ hm => ?_)
        clear h
        obtain ⟨i142, rfl, h⟩ := hq
        refine lv_icmp_eq (tgt := 1359) hx hb dL_law_355 (by decide) (fun hc => ?_) (fun hc => ?_)
        · replace h := h.1 hc
          exact (zb_L_law_1359 A hr hlocks hX hbl hbase hd0 hZ (lv_sub hl [0, 1, 2, 3] rfl) h (fun hd0 hZ hl h => ih hd0 hZ hl h))
        · replace h := h.2 hc
          refine lv_iconst (v := (0 : Int32)) hx hb dL_law_358 (by decide) ?_
          exact h.elim
      by_cases hc4 : (xs x3.toNatClampNeg) &&& (31 : Int32) = 4
      · refine lv_tableIn (off := 327) (tgt := 360) hx hb dL_law_33 (by rw [hc4]; decide) (by rw [hc4]; decide) (by rw [hc4]; rfl) (by decide) ?_
        replace h := h.2.2.2.2.1 hc4
        refine lv_aload_n hx hb dL_law_360 rfl (lv_at hl 1 rfl) ?_
        refine lv_aload_n hx hb dL_law_361 rfl (lv_at hl 0 rfl) ?_
        refine lv_iload_n hx hb dL_law_362 rfl (lv_at hl 3 rfl) ?_
        refine lv_iconst (v := (1 : Int32)) hx hb dL_law_363 (by decide) ?_
        refine lv_iadd hx hb dL_law_364 ?_
        obtain ⟨hin, h⟩ := h
        refine z_sld hx hb hX hbl hZ hin dL_law_365 ?_
        refine z_callV A hd0 hZ (ci := 4) (nA := 1) (As := [.int (xs (x3 + (1 : Int32)).toNatClampNeg)]) (by decide) (isO_c (a := 0) hZ.k0 (by decide) rfl) (c_X4_few l G base M 0 (xs (x3 + (1 : Int32)).toNatClampNeg) _ h) k_ml_RL_35 k_im_yX4_few k_se_yX4_few k_in_RX4 k_co_yX4_few (by decide +kernel) ⟨by decide, by decide⟩ rfl rfl (Nat.le_of_ble_eq_true rfl) hl dL_law_366 (fun v M143 H locs d0 cells slots hq hd0 hZ hm => ?_)
        clear h
        obtain ⟨i144, rfl, h⟩ := hq
        refine lv_aload_n hx hb dL_law_369 rfl (lv_at hl 2 rfl) ?_
        refine lv_aload_n hx hb dL_law_370 rfl (lv_at hl 0 rfl) ?_
        refine lv_iload_n hx hb dL_law_371 rfl (lv_at hl 3 rfl) ?_
        refine lv_iconst (v := (1 : Int32)) hx hb dL_law_372 (by decide) ?_
        refine lv_iadd hx hb dL_law_373 ?_
        obtain ⟨hin, h⟩ := h
        refine z_sld hx hb hX hbl hZ hin dL_law_374 ?_
        refine z_callV A hd0 hZ (ci := 5) (nA := 1) (As := [.int (xs (x3 + (1 : Int32)).toNatClampNeg)]) (by decide) (isO_c (a := 69) hZ.k0 (by decide) rfl) (c_X5_few l G base M143 69 (xs (x3 + (1 : Int32)).toNatClampNeg) _ h) k_ml_RL_38 k_im_yX5_few k_se_yX5_few k_in_RX5 k_co_yX5_few (by decide +kernel) ⟨by decide, by decide⟩ rfl rfl (Nat.le_of_ble_eq_true rfl) hl dL_law_375 (fun v M145 H locs d0 cells slots hq hd0 hZ hm => ?_)
        clear h
        obtain ⟨i146, rfl, h⟩ := hq
        refine lv_icmp_eq (tgt := 1359) hx hb dL_law_378 (by decide) (fun hc => ?_) (fun hc => ?_)
        · replace h := h.1 hc
          exact (zb_L_law_1359 A hr hlocks hX hbl hbase hd0 hZ (lv_sub hl [0, 1, 2, 3] rfl) h (fun hd0 hZ hl h => ih hd0 hZ hl h))
        · replace h := h.2 hc
          refine lv_iconst (v := (0 : Int32)) hx hb dL_law_381 (by decide) ?_
          exact h.elim
      by_cases hc5 : (xs x3.toNatClampNeg) &&& (31 : Int32) = 5
      · refine lv_tableIn (off := 350) (tgt := 383) hx hb dL_law_33 (by rw [hc5]; decide) (by rw [hc5]; decide) (by rw [hc5]; rfl) (by decide) ?_
        replace h := h.2.2.2.2.2.1 hc5
        refine lv_aload_n hx hb dL_law_383 rfl (lv_at hl 1 rfl) ?_
        refine lv_aload_n hx hb dL_law_384 rfl (lv_at hl 0 rfl) ?_
        refine lv_iload_n hx hb dL_law_385 rfl (lv_at hl 3 rfl) ?_
        refine lv_iconst (v := (1 : Int32)) hx hb dL_law_386 (by decide) ?_
        refine lv_iadd hx hb dL_law_387 ?_
        obtain ⟨hin, h⟩ := h
        refine z_sld hx hb hX hbl hZ hin dL_law_388 ?_
        refine lv_aload_n hx hb dL_law_389 rfl (lv_at hl 0 rfl) ?_
        refine lv_iload_n hx hb dL_law_390 rfl (lv_at hl 3 rfl) ?_
        refine lv_iconst (v := (2 : Int32)) hx hb dL_law_391 (by decide) ?_
        refine lv_iadd hx hb dL_law_392 ?_
        obtain ⟨hin, h⟩ := h
        refine z_sld hx hb hX hbl hZ hin dL_law_393 ?_
        refine lv_aload_n hx hb dL_law_394 rfl (lv_at hl 0 rfl) ?_
        refine lv_iload_n hx hb dL_law_395 rfl (lv_at hl 3 rfl) ?_
        refine lv_iconst (v := (3 : Int32)) hx hb dL_law_396 (by decide) ?_
        refine lv_iadd hx hb dL_law_397 ?_
        obtain ⟨hin, h⟩ := h
        refine z_sld hx hb hX hbl hZ hin dL_law_398 ?_
        refine lv_aload_n hx hb dL_law_399 rfl (lv_at hl 0 rfl) ?_
        refine lv_iload_n hx hb dL_law_400 rfl (lv_at hl 3 rfl) ?_
        refine lv_iconst (v := (4 : Int32)) hx hb dL_law_401 (by decide) ?_
        refine lv_iadd hx hb dL_law_402 ?_
        obtain ⟨hin, h⟩ := h
        refine z_sld hx hb hX hbl hZ hin dL_law_403 ?_
        refine z_callV A hd0 hZ (ci := 4) (nA := 4) (As := [.int (xs (x3 + (1 : Int32)).toNatClampNeg), .int (xs (x3 + (2 : Int32)).toNatClampNeg), .int (xs (x3 + (3 : Int32)).toNatClampNeg), .int (xs (x3 + (4 : Int32)).toNatClampNeg)]) (by decide) (isO_c (a := 0) hZ.k0 (by decide) rfl) (c_X4_passes l G base M 0 (xs (x3 + (1 : Int32)).toNatClampNeg) (xs (x3 + (2 : Int32)).toNatClampNeg) (xs (x3 + (3 : Int32)).toNatClampNeg) (xs (x3 + (4 : Int32)).toNatClampNeg) _ h) k_ml_RL_39 k_im_yX4_passes k_se_yX4_passes k_in_RX4 k_co_yX4_passes (by decide +kernel) ⟨by decide, by decide⟩ rfl rfl (Nat.le_of_ble_eq_true rfl) hl dL_law_404 (fun v M147 H locs d0 cells slots hq hd0 hZ hm => ?_)
        clear h
        obtain ⟨i148, rfl, h⟩ := hq
        refine lv_aload_n hx hb dL_law_407 rfl (lv_at hl 2 rfl) ?_
        refine lv_aload_n hx hb dL_law_408 rfl (lv_at hl 0 rfl) ?_
        refine lv_iload_n hx hb dL_law_409 rfl (lv_at hl 3 rfl) ?_
        refine lv_iconst (v := (1 : Int32)) hx hb dL_law_410 (by decide) ?_
        refine lv_iadd hx hb dL_law_411 ?_
        obtain ⟨hin, h⟩ := h
        refine z_sld hx hb hX hbl hZ hin dL_law_412 ?_
        refine lv_aload_n hx hb dL_law_413 rfl (lv_at hl 0 rfl) ?_
        refine lv_iload_n hx hb dL_law_414 rfl (lv_at hl 3 rfl) ?_
        refine lv_iconst (v := (2 : Int32)) hx hb dL_law_415 (by decide) ?_
        refine lv_iadd hx hb dL_law_416 ?_
        obtain ⟨hin, h⟩ := h
        refine z_sld hx hb hX hbl hZ hin dL_law_417 ?_
        refine lv_aload_n hx hb dL_law_418 rfl (lv_at hl 0 rfl) ?_
        refine lv_iload_n hx hb dL_law_419 rfl (lv_at hl 3 rfl) ?_
        refine lv_iconst (v := (3 : Int32)) hx hb dL_law_420 (by decide) ?_
        refine lv_iadd hx hb dL_law_421 ?_
        obtain ⟨hin, h⟩ := h
        refine z_sld hx hb hX hbl hZ hin dL_law_422 ?_
        refine lv_aload_n hx hb dL_law_423 rfl (lv_at hl 0 rfl) ?_
        refine lv_iload_n hx hb dL_law_424 rfl (lv_at hl 3 rfl) ?_
        refine lv_iconst (v := (4 : Int32)) hx hb dL_law_425 (by decide) ?_
        refine lv_iadd hx hb dL_law_426 ?_
        obtain ⟨hin, h⟩ := h
        refine z_sld hx hb hX hbl hZ hin dL_law_427 ?_
        refine z_callV A hd0 hZ (ci := 5) (nA := 4) (As := [.int (xs (x3 + (1 : Int32)).toNatClampNeg), .int (xs (x3 + (2 : Int32)).toNatClampNeg), .int (xs (x3 + (3 : Int32)).toNatClampNeg), .int (xs (x3 + (4 : Int32)).toNatClampNeg)]) (by decide) (isO_c (a := 69) hZ.k0 (by decide) rfl) (c_X5_passes l G base M147 69 (xs (x3 + (1 : Int32)).toNatClampNeg) (xs (x3 + (2 : Int32)).toNatClampNeg) (xs (x3 + (3 : Int32)).toNatClampNeg) (xs (x3 + (4 : Int32)).toNatClampNeg) _ h) k_ml_RL_43 k_im_yX5_passes k_se_yX5_passes k_in_RX5 k_co_yX5_passes (by decide +kernel) ⟨by decide, by decide⟩ rfl rfl (Nat.le_of_ble_eq_true rfl) hl dL_law_428 (fun v M149 H locs d0 cells slots hq hd0 hZ hm => ?_)
        clear h
        obtain ⟨i150, rfl, h⟩ := hq
        refine lv_icmp_eq (tgt := 1359) hx hb dL_law_431 (by decide) (fun hc => ?_) (fun hc => ?_)
        · replace h := h.1 hc
          exact (zb_L_law_1359 A hr hlocks hX hbl hbase hd0 hZ (lv_sub hl [0, 1, 2, 3] rfl) h (fun hd0 hZ hl h => ih hd0 hZ hl h))
        · replace h := h.2 hc
          refine lv_iconst (v := (0 : Int32)) hx hb dL_law_434 (by decide) ?_
          exact h.elim
      by_cases hc6 : (xs x3.toNatClampNeg) &&& (31 : Int32) = 6
      · refine lv_tableIn (off := 403) (tgt := 436) hx hb dL_law_33 (by rw [hc6]; decide) (by rw [hc6]; decide) (by rw [hc6]; rfl) (by decide) ?_
        replace h := h.2.2.2.2.2.2.1 hc6
        refine lv_aload_n hx hb dL_law_436 rfl (lv_at hl 1 rfl) ?_
        refine lv_aload_n hx hb dL_law_437 rfl (lv_at hl 0 rfl) ?_
        refine lv_iload_n hx hb dL_law_438 rfl (lv_at hl 3 rfl) ?_
        refine lv_iconst (v := (1 : Int32)) hx hb dL_law_439 (by decide) ?_
        refine lv_iadd hx hb dL_law_440 ?_
        obtain ⟨hin, h⟩ := h
        refine z_sld hx hb hX hbl hZ hin dL_law_441 ?_
        refine lv_aload_n hx hb dL_law_442 rfl (lv_at hl 0 rfl) ?_
        refine lv_iload_n hx hb dL_law_443 rfl (lv_at hl 3 rfl) ?_
        refine lv_iconst (v := (2 : Int32)) hx hb dL_law_444 (by decide) ?_
        refine lv_iadd hx hb dL_law_445 ?_
        obtain ⟨hin, h⟩ := h
        refine z_sld hx hb hX hbl hZ hin dL_law_446 ?_
        refine z_callV A hd0 hZ (ci := 4) (nA := 2) (As := [.int (xs (x3 + (1 : Int32)).toNatClampNeg), .int (xs (x3 + (2 : Int32)).toNatClampNeg)]) (by decide) (isO_c (a := 0) hZ.k0 (by decide) rfl) (c_X4_span l G base M 0 (xs (x3 + (1 : Int32)).toNatClampNeg) (xs (x3 + (2 : Int32)).toNatClampNeg) _ h) k_ml_RL_44 k_im_yX4_span k_se_yX4_span k_in_RX4 k_co_yX4_span (by decide +kernel) ⟨by decide, by decide⟩ rfl rfl (Nat.le_of_ble_eq_true rfl) hl dL_law_447 (fun v M151 H locs d0 cells slots hq hd0 hZ hm => ?_)
        clear h
        obtain ⟨i152, rfl, h⟩ := hq
        refine lv_aload_n hx hb dL_law_450 rfl (lv_at hl 2 rfl) ?_
        refine lv_aload_n hx hb dL_law_451 rfl (lv_at hl 0 rfl) ?_
        refine lv_iload_n hx hb dL_law_452 rfl (lv_at hl 3 rfl) ?_
        refine lv_iconst (v := (1 : Int32)) hx hb dL_law_453 (by decide) ?_
        refine lv_iadd hx hb dL_law_454 ?_
        obtain ⟨hin, h⟩ := h
        refine z_sld hx hb hX hbl hZ hin dL_law_455 ?_
        refine lv_aload_n hx hb dL_law_456 rfl (lv_at hl 0 rfl) ?_
        refine lv_iload_n hx hb dL_law_457 rfl (lv_at hl 3 rfl) ?_
        refine lv_iconst (v := (2 : Int32)) hx hb dL_law_458 (by decide) ?_
        refine lv_iadd hx hb dL_law_459 ?_
        obtain ⟨hin, h⟩ := h
        refine z_sld hx hb hX hbl hZ hin dL_law_460 ?_
        refine z_callV A hd0 hZ (ci := 5) (nA := 2) (As := [.int (xs (x3 + (1 : Int32)).toNatClampNeg), .int (xs (x3 + (2 : Int32)).toNatClampNeg)]) (by decide) (isO_c (a := 69) hZ.k0 (by decide) rfl) (c_X5_span l G base M151 69 (xs (x3 + (1 : Int32)).toNatClampNeg) (xs (x3 + (2 : Int32)).toNatClampNeg) _ h) k_ml_RL_48 k_im_yX5_span k_se_yX5_span k_in_RX5 k_co_yX5_span (by decide +kernel) ⟨by decide, by decide⟩ rfl rfl (Nat.le_of_ble_eq_true rfl) hl dL_law_461 (fun v M153 H locs d0 cells slots hq hd0 hZ hm => ?_)
        clear h
        obtain ⟨i154, rfl, h⟩ := hq
        refine lv_icmp_eq (tgt := 1359) hx hb dL_law_464 (by decide) (fun hc => ?_) (fun hc => ?_)
        · replace h := h.1 hc
          exact (zb_L_law_1359 A hr hlocks hX hbl hbase hd0 hZ (lv_sub hl [0, 1, 2, 3] rfl) h (fun hd0 hZ hl h => ih hd0 hZ hl h))
        · replace h := h.2 hc
          refine lv_iconst (v := (0 : Int32)) hx hb dL_law_467 (by decide) ?_
          exact h.elim
      by_cases hc7 : (xs x3.toNatClampNeg) &&& (31 : Int32) = 7
      · refine lv_tableIn (off := 436) (tgt := 469) hx hb dL_law_33 (by rw [hc7]; decide) (by rw [hc7]; decide) (by rw [hc7]; rfl) (by decide) ?_
        replace h := h.2.2.2.2.2.2.2.1 hc7
        refine lv_aload_n hx hb dL_law_469 rfl (lv_at hl 1 rfl) ?_
        refine lv_aload_n hx hb dL_law_470 rfl (lv_at hl 0 rfl) ?_
        refine lv_iload_n hx hb dL_law_471 rfl (lv_at hl 3 rfl) ?_
        refine lv_iconst (v := (1 : Int32)) hx hb dL_law_472 (by decide) ?_
        refine lv_iadd hx hb dL_law_473 ?_
        obtain ⟨hin, h⟩ := h
        refine z_sld hx hb hX hbl hZ hin dL_law_474 ?_
        refine z_callV A hd0 hZ (ci := 4) (nA := 1) (As := [.int (xs (x3 + (1 : Int32)).toNatClampNeg)]) (by decide) (isO_c (a := 0) hZ.k0 (by decide) rfl) (c_X4_build l G base M 0 (xs (x3 + (1 : Int32)).toNatClampNeg) _ h) k_ml_RL_49 k_im_yX4_build k_se_yX4_build k_in_RX4 k_co_yX4_build (by decide +kernel) ⟨by decide, by decide⟩ rfl rfl (Nat.le_of_ble_eq_true rfl) hl dL_law_475 (fun v M155 H locs d0 cells slots hq hd0 hZ hm => ?_)
        clear h
        obtain ⟨i156, rfl, h⟩ := hq
        refine lv_aload_n hx hb dL_law_478 rfl (lv_at hl 2 rfl) ?_
        refine lv_aload_n hx hb dL_law_479 rfl (lv_at hl 0 rfl) ?_
        refine lv_iload_n hx hb dL_law_480 rfl (lv_at hl 3 rfl) ?_
        refine lv_iconst (v := (1 : Int32)) hx hb dL_law_481 (by decide) ?_
        refine lv_iadd hx hb dL_law_482 ?_
        obtain ⟨hin, h⟩ := h
        refine z_sld hx hb hX hbl hZ hin dL_law_483 ?_
        refine z_callV A hd0 hZ (ci := 5) (nA := 1) (As := [.int (xs (x3 + (1 : Int32)).toNatClampNeg)]) (by decide) (isO_c (a := 69) hZ.k0 (by decide) rfl) (c_X5_build l G base M155 69 (xs (x3 + (1 : Int32)).toNatClampNeg) _ h) k_ml_RL_52 k_im_yX5_build k_se_yX5_build k_in_RX5 k_co_yX5_build (by decide +kernel) ⟨by decide, by decide⟩ rfl rfl (Nat.le_of_ble_eq_true rfl) hl dL_law_484 (fun v M157 H locs d0 cells slots hq hd0 hZ hm => ?_)
        clear h
        obtain ⟨i158, rfl, h⟩ := hq
        refine lv_icmp_eq (tgt := 1359) hx hb dL_law_487 (by decide) (fun hc => ?_) (fun hc => ?_)
        · replace h := h.1 hc
          exact (zb_L_law_1359 A hr hlocks hX hbl hbase hd0 hZ (lv_sub hl [0, 1, 2, 3] rfl) h (fun hd0 hZ hl h => ih hd0 hZ hl h))
        · replace h := h.2 hc
          refine lv_iconst (v := (0 : Int32)) hx hb dL_law_490 (by decide) ?_
          exact h.elim
      by_cases hc8 : (xs x3.toNatClampNeg) &&& (31 : Int32) = 8
      · refine lv_tableIn (off := 459) (tgt := 492) hx hb dL_law_33 (by rw [hc8]; decide) (by rw [hc8]; decide) (by rw [hc8]; rfl) (by decide) ?_
        replace h := h.2.2.2.2.2.2.2.2.1 hc8
        refine lv_aload_n hx hb dL_law_492 rfl (lv_at hl 1 rfl) ?_
        refine lv_aload_n hx hb dL_law_493 rfl (lv_at hl 0 rfl) ?_
        refine lv_iload_n hx hb dL_law_494 rfl (lv_at hl 3 rfl) ?_
        refine lv_iconst (v := (1 : Int32)) hx hb dL_law_495 (by decide) ?_
        refine lv_iadd hx hb dL_law_496 ?_
        obtain ⟨hin, h⟩ := h
        refine z_sld hx hb hX hbl hZ hin dL_law_497 ?_
        refine z_callV A hd0 hZ (ci := 4) (nA := 1) (As := [.int (xs (x3 + (1 : Int32)).toNatClampNeg)]) (by decide) (isO_c (a := 0) hZ.k0 (by decide) rfl) (c_X4_again l G base M 0 (xs (x3 + (1 : Int32)).toNatClampNeg) _ h) k_ml_RL_53 k_im_yX4_again k_se_yX4_again k_in_RX4 k_co_yX4_again (by decide +kernel) ⟨by decide, by decide⟩ rfl rfl (Nat.le_of_ble_eq_true rfl) hl dL_law_498 (fun v M159 H locs d0 cells slots hq hd0 hZ hm => ?_)
        clear h
        obtain ⟨i160, rfl, h⟩ := hq
        refine lv_aload_n hx hb dL_law_501 rfl (lv_at hl 2 rfl) ?_
        refine lv_aload_n hx hb dL_law_502 rfl (lv_at hl 0 rfl) ?_
        refine lv_iload_n hx hb dL_law_503 rfl (lv_at hl 3 rfl) ?_
        refine lv_iconst (v := (1 : Int32)) hx hb dL_law_504 (by decide) ?_
        refine lv_iadd hx hb dL_law_505 ?_
        obtain ⟨hin, h⟩ := h
        refine z_sld hx hb hX hbl hZ hin dL_law_506 ?_
        refine z_callV A hd0 hZ (ci := 5) (nA := 1) (As := [.int (xs (x3 + (1 : Int32)).toNatClampNeg)]) (by decide) (isO_c (a := 69) hZ.k0 (by decide) rfl) (c_X5_again l G base M159 69 (xs (x3 + (1 : Int32)).toNatClampNeg) _ h) k_ml_RL_56 k_im_yX5_again k_se_yX5_again k_in_RX5 k_co_yX5_again (by decide +kernel) ⟨by decide, by decide⟩ rfl rfl (Nat.le_of_ble_eq_true rfl) hl dL_law_507 (fun v M161 H locs d0 cells slots hq hd0 hZ hm => ?_)
        clear h
        obtain ⟨i162, rfl, h⟩ := hq
        refine lv_icmp_eq (tgt := 1359) hx hb dL_law_510 (by decide) (fun hc => ?_) (fun hc => ?_)
        · replace h := h.1 hc
          exact (zb_L_law_1359 A hr hlocks hX hbl hbase hd0 hZ (lv_sub hl [0, 1, 2, 3] rfl) h (fun hd0 hZ hl h => ih hd0 hZ hl h))
        · replace h := h.2 hc
          refine lv_iconst (v := (0 : Int32)) hx hb dL_law_513 (by decide) ?_
          exact h.elim
      by_cases hc9 : (xs x3.toNatClampNeg) &&& (31 : Int32) = 9
      · refine lv_tableIn (off := 482) (tgt := 515) hx hb dL_law_33 (by rw [hc9]; decide) (by rw [hc9]; decide) (by rw [hc9]; rfl) (by decide) ?_
        replace h := h.2.2.2.2.2.2.2.2.2.1 hc9
        refine lv_aload_n hx hb dL_law_515 rfl (lv_at hl 1 rfl) ?_
        refine z_callV A hd0 hZ (ci := 4) (nA := 0) (As := []) (by decide) (isO_c (a := 0) hZ.k0 (by decide) rfl) (c_X4_clear l G base M 0 _ h) k_ml_RL_57 k_im_yX4_clear k_se_yX4_clear k_in_RX4 k_co_yX4_clear (by decide +kernel) ⟨by decide, by decide⟩ rfl rfl (Nat.le_of_ble_eq_true rfl) hl dL_law_516 (fun v M163 H locs d0 cells slots hq hd0 hZ hm => ?_)
        clear h
        obtain ⟨i164, rfl, h⟩ := hq
        refine lv_aload_n hx hb dL_law_519 rfl (lv_at hl 2 rfl) ?_
        refine z_callV A hd0 hZ (ci := 5) (nA := 0) (As := []) (by decide) (isO_c (a := 69) hZ.k0 (by decide) rfl) (c_X5_clear l G base M163 69 _ h) k_ml_RL_60 k_im_yX5_clear k_se_yX5_clear k_in_RX5 k_co_yX5_clear (by decide +kernel) ⟨by decide, by decide⟩ rfl rfl (Nat.le_of_ble_eq_true rfl) hl dL_law_520 (fun v M165 H locs d0 cells slots hq hd0 hZ hm => ?_)
        clear h
        obtain ⟨i166, rfl, h⟩ := hq
        refine lv_icmp_eq (tgt := 1359) hx hb dL_law_523 (by decide) (fun hc => ?_) (fun hc => ?_)
        · replace h := h.1 hc
          exact (zb_L_law_1359 A hr hlocks hX hbl hbase hd0 hZ (lv_sub hl [0, 1, 2, 3] rfl) h (fun hd0 hZ hl h => ih hd0 hZ hl h))
        · replace h := h.2 hc
          refine lv_iconst (v := (0 : Int32)) hx hb dL_law_526 (by decide) ?_
          exact h.elim
      by_cases hc10 : (xs x3.toNatClampNeg) &&& (31 : Int32) = 10
      · refine lv_tableIn (off := 495) (tgt := 528) hx hb dL_law_33 (by rw [hc10]; decide) (by rw [hc10]; decide) (by rw [hc10]; rfl) (by decide) ?_
        replace h := h.2.2.2.2.2.2.2.2.2.2.1 hc10
        refine lv_aload_n hx hb dL_law_528 rfl (lv_at hl 1 rfl) ?_
        refine lv_aload_n hx hb dL_law_529 rfl (lv_at hl 0 rfl) ?_
        refine lv_iload_n hx hb dL_law_530 rfl (lv_at hl 3 rfl) ?_
        refine lv_iconst (v := (1 : Int32)) hx hb dL_law_531 (by decide) ?_
        refine lv_iadd hx hb dL_law_532 ?_
        obtain ⟨hin, h⟩ := h
        refine z_sld hx hb hX hbl hZ hin dL_law_533 ?_
        refine z_callV A hd0 hZ (ci := 4) (nA := 1) (As := [.int (xs (x3 + (1 : Int32)).toNatClampNeg)]) (by decide) (isO_c (a := 0) hZ.k0 (by decide) rfl) (c_X4_round l G base M 0 (xs (x3 + (1 : Int32)).toNatClampNeg) _ h) k_ml_RL_61 k_im_yX4_round k_se_yX4_round k_in_RX4 k_co_yX4_round (by decide +kernel) ⟨by decide, by decide⟩ rfl rfl (Nat.le_of_ble_eq_true rfl) hl dL_law_534 (fun v M167 H locs d0 cells slots hq hd0 hZ hm => ?_)
        clear h
        obtain ⟨i168, rfl, h⟩ := hq
        refine lv_aload_n hx hb dL_law_537 rfl (lv_at hl 2 rfl) ?_
        refine lv_aload_n hx hb dL_law_538 rfl (lv_at hl 0 rfl) ?_
        refine lv_iload_n hx hb dL_law_539 rfl (lv_at hl 3 rfl) ?_
        refine lv_iconst (v := (1 : Int32)) hx hb dL_law_540 (by decide) ?_
        refine lv_iadd hx hb dL_law_541 ?_
        obtain ⟨hin, h⟩ := h
        refine z_sld hx hb hX hbl hZ hin dL_law_542 ?_
        refine z_callV A hd0 hZ (ci := 5) (nA := 1) (As := [.int (xs (x3 + (1 : Int32)).toNatClampNeg)]) (by decide) (isO_c (a := 69) hZ.k0 (by decide) rfl) (c_X5_round l G base M167 69 (xs (x3 + (1 : Int32)).toNatClampNeg) _ h) k_ml_RL_64 k_im_yX5_round k_se_yX5_round k_in_RX5 k_co_yX5_round (by decide +kernel) ⟨by decide, by decide⟩ rfl rfl (Nat.le_of_ble_eq_true rfl) hl dL_law_543 (fun v M169 H locs d0 cells slots hq hd0 hZ hm => ?_)
        clear h
        obtain ⟨i170, rfl, h⟩ := hq
        refine lv_icmp_eq (tgt := 1359) hx hb dL_law_546 (by decide) (fun hc => ?_) (fun hc => ?_)
        · replace h := h.1 hc
          exact (zb_L_law_1359 A hr hlocks hX hbl hbase hd0 hZ (lv_sub hl [0, 1, 2, 3] rfl) h (fun hd0 hZ hl h => ih hd0 hZ hl h))
        · replace h := h.2 hc
          refine lv_iconst (v := (0 : Int32)) hx hb dL_law_549 (by decide) ?_
          exact h.elim
      by_cases hc11 : (xs x3.toNatClampNeg) &&& (31 : Int32) = 11
      · refine lv_tableIn (off := 518) (tgt := 551) hx hb dL_law_33 (by rw [hc11]; decide) (by rw [hc11]; decide) (by rw [hc11]; rfl) (by decide) ?_
        replace h := h.2.2.2.2.2.2.2.2.2.2.2.1 hc11
        refine lv_aload_n hx hb dL_law_551 rfl (lv_at hl 1 rfl) ?_
        refine lv_aload_n hx hb dL_law_552 rfl (lv_at hl 0 rfl) ?_
        refine lv_iload_n hx hb dL_law_553 rfl (lv_at hl 3 rfl) ?_
        refine lv_iconst (v := (1 : Int32)) hx hb dL_law_554 (by decide) ?_
        refine lv_iadd hx hb dL_law_555 ?_
        obtain ⟨hin, h⟩ := h
        refine z_sld hx hb hX hbl hZ hin dL_law_556 ?_
        refine z_callV A hd0 hZ (ci := 4) (nA := 1) (As := [.int (xs (x3 + (1 : Int32)).toNatClampNeg)]) (by decide) (isO_c (a := 0) hZ.k0 (by decide) rfl) (c_X4_merge l G base M 0 (xs (x3 + (1 : Int32)).toNatClampNeg) _ h) k_ml_RL_65 k_im_yX4_merge k_se_yX4_merge k_in_RX4 k_co_yX4_merge (by decide +kernel) ⟨by decide, by decide⟩ rfl rfl (Nat.le_of_ble_eq_true rfl) hl dL_law_557 (fun v M171 H locs d0 cells slots hq hd0 hZ hm => ?_)
        clear h
        obtain ⟨i172, rfl, h⟩ := hq
        refine lv_aload_n hx hb dL_law_560 rfl (lv_at hl 2 rfl) ?_
        refine lv_aload_n hx hb dL_law_561 rfl (lv_at hl 0 rfl) ?_
        refine lv_iload_n hx hb dL_law_562 rfl (lv_at hl 3 rfl) ?_
        refine lv_iconst (v := (1 : Int32)) hx hb dL_law_563 (by decide) ?_
        refine lv_iadd hx hb dL_law_564 ?_
        obtain ⟨hin, h⟩ := h
        refine z_sld hx hb hX hbl hZ hin dL_law_565 ?_
        refine z_callV A hd0 hZ (ci := 5) (nA := 1) (As := [.int (xs (x3 + (1 : Int32)).toNatClampNeg)]) (by decide) (isO_c (a := 69) hZ.k0 (by decide) rfl) (c_X5_merge l G base M171 69 (xs (x3 + (1 : Int32)).toNatClampNeg) _ h) k_ml_RL_68 k_im_yX5_merge k_se_yX5_merge k_in_RX5 k_co_yX5_merge (by decide +kernel) ⟨by decide, by decide⟩ rfl rfl (Nat.le_of_ble_eq_true rfl) hl dL_law_566 (fun v M173 H locs d0 cells slots hq hd0 hZ hm => ?_)
        clear h
        obtain ⟨i174, rfl, h⟩ := hq
        refine lv_icmp_eq (tgt := 1359) hx hb dL_law_569 (by decide) (fun hc => ?_) (fun hc => ?_)
        · replace h := h.1 hc
          exact (zb_L_law_1359 A hr hlocks hX hbl hbase hd0 hZ (lv_sub hl [0, 1, 2, 3] rfl) h (fun hd0 hZ hl h => ih hd0 hZ hl h))
        · replace h := h.2 hc
          refine lv_iconst (v := (0 : Int32)) hx hb dL_law_572 (by decide) ?_
          exact h.elim
      by_cases hc12 : (xs x3.toNatClampNeg) &&& (31 : Int32) = 12
      · refine lv_tableIn (off := 541) (tgt := 574) hx hb dL_law_33 (by rw [hc12]; decide) (by rw [hc12]; decide) (by rw [hc12]; rfl) (by decide) ?_
        replace h := h.2.2.2.2.2.2.2.2.2.2.2.2.1 hc12
        refine lv_aload_n hx hb dL_law_574 rfl (lv_at hl 1 rfl) ?_
        refine lv_aload_n hx hb dL_law_575 rfl (lv_at hl 0 rfl) ?_
        refine lv_iload_n hx hb dL_law_576 rfl (lv_at hl 3 rfl) ?_
        refine lv_iconst (v := (1 : Int32)) hx hb dL_law_577 (by decide) ?_
        refine lv_iadd hx hb dL_law_578 ?_
        obtain ⟨hin, h⟩ := h
        refine z_sld hx hb hX hbl hZ hin dL_law_579 ?_
        refine lv_i2l hx hb dL_law_580 rfl ?_
        refine lv_bipush (v := (32 : Int32)) hx hb dL_law_581 (by decide) ?_
        refine lv_lshl hx hb dL_law_583 rfl ?_
        refine lv_aload_n hx hb dL_law_584 rfl (lv_at hl 0 rfl) ?_
        refine lv_iload_n hx hb dL_law_585 rfl (lv_at hl 3 rfl) ?_
        refine lv_iconst (v := (2 : Int32)) hx hb dL_law_586 (by decide) ?_
        refine lv_iadd hx hb dL_law_587 ?_
        obtain ⟨hin, h⟩ := h
        refine z_sld hx hb hX hbl hZ hin dL_law_588 ?_
        refine lv_i2l hx hb dL_law_589 rfl ?_
        refine lv_ldc2 (v := (4294967295 : Int64)) hx hb (A d0).2.2.2.1 ((A d0).2.2.2.2.1 _ k_lc_RL_13) dL_law_590 ?_
        refine lv_land hx hb dL_law_593 ?_
        refine lv_lor hx hb dL_law_594 ?_
        refine z_callV A hd0 hZ (ci := 4) (nA := 1) (As := [.long ((((xs (x3 + (1 : Int32)).toNatClampNeg).toInt64) <<< ((32 : Int32).toInt64 &&& 63)) ||| (((xs (x3 + (2 : Int32)).toNatClampNeg).toInt64) &&& (4294967295 : Int64)))]) (by decide) (isO_c (a := 0) hZ.k0 (by decide) rfl) (c_X4_find l G base M 0 ((((xs (x3 + (1 : Int32)).toNatClampNeg).toInt64) <<< ((32 : Int32).toInt64 &&& 63)) ||| (((xs (x3 + (2 : Int32)).toNatClampNeg).toInt64) &&& (4294967295 : Int64))) _ h) k_ml_RL_69 k_im_yX4_find k_se_yX4_find k_in_RX4 k_co_yX4_find (by decide +kernel) ⟨by decide, by decide⟩ rfl rfl (Nat.le_of_ble_eq_true rfl) hl dL_law_595 (fun v M175 H locs d0 cells slots hq hd0 hZ hm => ?_)
        clear h
        obtain ⟨i176, rfl, h⟩ := hq
        refine lv_aload_n hx hb dL_law_598 rfl (lv_at hl 2 rfl) ?_
        refine lv_aload_n hx hb dL_law_599 rfl (lv_at hl 0 rfl) ?_
        refine lv_iload_n hx hb dL_law_600 rfl (lv_at hl 3 rfl) ?_
        refine lv_iconst (v := (1 : Int32)) hx hb dL_law_601 (by decide) ?_
        refine lv_iadd hx hb dL_law_602 ?_
        obtain ⟨hin, h⟩ := h
        refine z_sld hx hb hX hbl hZ hin dL_law_603 ?_
        refine lv_i2l hx hb dL_law_604 rfl ?_
        refine lv_bipush (v := (32 : Int32)) hx hb dL_law_605 (by decide) ?_
        refine lv_lshl hx hb dL_law_607 rfl ?_
        refine lv_aload_n hx hb dL_law_608 rfl (lv_at hl 0 rfl) ?_
        refine lv_iload_n hx hb dL_law_609 rfl (lv_at hl 3 rfl) ?_
        refine lv_iconst (v := (2 : Int32)) hx hb dL_law_610 (by decide) ?_
        refine lv_iadd hx hb dL_law_611 ?_
        obtain ⟨hin, h⟩ := h
        refine z_sld hx hb hX hbl hZ hin dL_law_612 ?_
        refine lv_i2l hx hb dL_law_613 rfl ?_
        refine lv_ldc2 (v := (4294967295 : Int64)) hx hb (A d0).2.2.2.1 ((A d0).2.2.2.2.1 _ k_lc_RL_13) dL_law_614 ?_
        refine lv_land hx hb dL_law_617 ?_
        refine lv_lor hx hb dL_law_618 ?_
        refine z_callV A hd0 hZ (ci := 5) (nA := 1) (As := [.long ((((xs (x3 + (1 : Int32)).toNatClampNeg).toInt64) <<< ((32 : Int32).toInt64 &&& 63)) ||| (((xs (x3 + (2 : Int32)).toNatClampNeg).toInt64) &&& (4294967295 : Int64)))]) (by decide) (isO_c (a := 69) hZ.k0 (by decide) rfl) (c_X5_find l G base M175 69 ((((xs (x3 + (1 : Int32)).toNatClampNeg).toInt64) <<< ((32 : Int32).toInt64 &&& 63)) ||| (((xs (x3 + (2 : Int32)).toNatClampNeg).toInt64) &&& (4294967295 : Int64))) _ h) k_ml_RL_72 k_im_yX5_find k_se_yX5_find k_in_RX5 k_co_yX5_find (by decide +kernel) ⟨by decide, by decide⟩ rfl rfl (Nat.le_of_ble_eq_true rfl) hl dL_law_619 (fun v M177 H locs d0 cells slots hq hd0 hZ hm => ?_)
        clear h
        obtain ⟨i178, rfl, h⟩ := hq
        refine lv_icmp_eq (tgt := 1359) hx hb dL_law_622 (by decide) (fun hc => ?_) (fun hc => ?_)
        · replace h := h.1 hc
          exact (zb_L_law_1359 A hr hlocks hX hbl hbase hd0 hZ (lv_sub hl [0, 1, 2, 3] rfl) h (fun hd0 hZ hl h => ih hd0 hZ hl h))
        · replace h := h.2 hc
          refine lv_iconst (v := (0 : Int32)) hx hb dL_law_625 (by decide) ?_
          exact h.elim
      by_cases hc13 : (xs x3.toNatClampNeg) &&& (31 : Int32) = 13
      · refine lv_tableIn (off := 594) (tgt := 627) hx hb dL_law_33 (by rw [hc13]; decide) (by rw [hc13]; decide) (by rw [hc13]; rfl) (by decide) ?_
        replace h := h.2.2.2.2.2.2.2.2.2.2.2.2.2.1 hc13
        refine lv_aload_n hx hb dL_law_627 rfl (lv_at hl 1 rfl) ?_
        refine lv_aload_n hx hb dL_law_628 rfl (lv_at hl 0 rfl) ?_
        refine lv_iload_n hx hb dL_law_629 rfl (lv_at hl 3 rfl) ?_
        refine lv_iconst (v := (1 : Int32)) hx hb dL_law_630 (by decide) ?_
        refine lv_iadd hx hb dL_law_631 ?_
        obtain ⟨hin, h⟩ := h
        refine z_sld hx hb hX hbl hZ hin dL_law_632 ?_
        refine lv_i2l hx hb dL_law_633 rfl ?_
        refine lv_bipush (v := (32 : Int32)) hx hb dL_law_634 (by decide) ?_
        refine lv_lshl hx hb dL_law_636 rfl ?_
        refine lv_aload_n hx hb dL_law_637 rfl (lv_at hl 0 rfl) ?_
        refine lv_iload_n hx hb dL_law_638 rfl (lv_at hl 3 rfl) ?_
        refine lv_iconst (v := (2 : Int32)) hx hb dL_law_639 (by decide) ?_
        refine lv_iadd hx hb dL_law_640 ?_
        obtain ⟨hin, h⟩ := h
        refine z_sld hx hb hX hbl hZ hin dL_law_641 ?_
        refine lv_i2l hx hb dL_law_642 rfl ?_
        refine lv_ldc2 (v := (4294967295 : Int64)) hx hb (A d0).2.2.2.1 ((A d0).2.2.2.2.1 _ k_lc_RL_13) dL_law_643 ?_
        refine lv_land hx hb dL_law_646 ?_
        refine lv_lor hx hb dL_law_647 ?_
        refine z_callV A hd0 hZ (ci := 4) (nA := 1) (As := [.long ((((xs (x3 + (1 : Int32)).toNatClampNeg).toInt64) <<< ((32 : Int32).toInt64 &&& 63)) ||| (((xs (x3 + (2 : Int32)).toNatClampNeg).toInt64) &&& (4294967295 : Int64)))]) (by decide) (isO_c (a := 0) hZ.k0 (by decide) rfl) (c_X4_insert l G base M 0 ((((xs (x3 + (1 : Int32)).toNatClampNeg).toInt64) <<< ((32 : Int32).toInt64 &&& 63)) ||| (((xs (x3 + (2 : Int32)).toNatClampNeg).toInt64) &&& (4294967295 : Int64))) _ h) k_ml_RL_73 k_im_yX4_insert k_se_yX4_insert k_in_RX4 k_co_yX4_insert (by decide +kernel) ⟨by decide, by decide⟩ rfl rfl (Nat.le_of_ble_eq_true rfl) hl dL_law_648 (fun v M179 H locs d0 cells slots hq hd0 hZ hm => ?_)
        clear h
        obtain ⟨i180, rfl, h⟩ := hq
        refine lv_aload_n hx hb dL_law_651 rfl (lv_at hl 2 rfl) ?_
        refine lv_aload_n hx hb dL_law_652 rfl (lv_at hl 0 rfl) ?_
        refine lv_iload_n hx hb dL_law_653 rfl (lv_at hl 3 rfl) ?_
        refine lv_iconst (v := (1 : Int32)) hx hb dL_law_654 (by decide) ?_
        refine lv_iadd hx hb dL_law_655 ?_
        obtain ⟨hin, h⟩ := h
        refine z_sld hx hb hX hbl hZ hin dL_law_656 ?_
        refine lv_i2l hx hb dL_law_657 rfl ?_
        refine lv_bipush (v := (32 : Int32)) hx hb dL_law_658 (by decide) ?_
        refine lv_lshl hx hb dL_law_660 rfl ?_
        refine lv_aload_n hx hb dL_law_661 rfl (lv_at hl 0 rfl) ?_
        refine lv_iload_n hx hb dL_law_662 rfl (lv_at hl 3 rfl) ?_
        refine lv_iconst (v := (2 : Int32)) hx hb dL_law_663 (by decide) ?_
        refine lv_iadd hx hb dL_law_664 ?_
        obtain ⟨hin, h⟩ := h
        refine z_sld hx hb hX hbl hZ hin dL_law_665 ?_
        refine lv_i2l hx hb dL_law_666 rfl ?_
        refine lv_ldc2 (v := (4294967295 : Int64)) hx hb (A d0).2.2.2.1 ((A d0).2.2.2.2.1 _ k_lc_RL_13) dL_law_667 ?_
        refine lv_land hx hb dL_law_670 ?_
        refine lv_lor hx hb dL_law_671 ?_
        refine z_callV A hd0 hZ (ci := 5) (nA := 1) (As := [.long ((((xs (x3 + (1 : Int32)).toNatClampNeg).toInt64) <<< ((32 : Int32).toInt64 &&& 63)) ||| (((xs (x3 + (2 : Int32)).toNatClampNeg).toInt64) &&& (4294967295 : Int64)))]) (by decide) (isO_c (a := 69) hZ.k0 (by decide) rfl) (c_X5_insert l G base M179 69 ((((xs (x3 + (1 : Int32)).toNatClampNeg).toInt64) <<< ((32 : Int32).toInt64 &&& 63)) ||| (((xs (x3 + (2 : Int32)).toNatClampNeg).toInt64) &&& (4294967295 : Int64))) _ h) k_ml_RL_76 k_im_yX5_insert k_se_yX5_insert k_in_RX5 k_co_yX5_insert (by decide +kernel) ⟨by decide, by decide⟩ rfl rfl (Nat.le_of_ble_eq_true rfl) hl dL_law_672 (fun v M181 H locs d0 cells slots hq hd0 hZ hm => ?_)
        clear h
        obtain ⟨i182, rfl, h⟩ := hq
        refine lv_icmp_eq (tgt := 1359) hx hb dL_law_675 (by decide) (fun hc => ?_) (fun hc => ?_)
        · replace h := h.1 hc
          exact (zb_L_law_1359 A hr hlocks hX hbl hbase hd0 hZ (lv_sub hl [0, 1, 2, 3] rfl) h (fun hd0 hZ hl h => ih hd0 hZ hl h))
        · replace h := h.2 hc
          refine lv_iconst (v := (0 : Int32)) hx hb dL_law_678 (by decide) ?_
          exact h.elim
      by_cases hc14 : (xs x3.toNatClampNeg) &&& (31 : Int32) = 14
      · refine lv_tableIn (off := 647) (tgt := 680) hx hb dL_law_33 (by rw [hc14]; decide) (by rw [hc14]; decide) (by rw [hc14]; rfl) (by decide) ?_
        replace h := h.2.2.2.2.2.2.2.2.2.2.2.2.2.2.1 hc14
        refine lv_aload_n hx hb dL_law_680 rfl (lv_at hl 1 rfl) ?_
        refine lv_aload_n hx hb dL_law_681 rfl (lv_at hl 0 rfl) ?_
        refine lv_iload_n hx hb dL_law_682 rfl (lv_at hl 3 rfl) ?_
        refine lv_iconst (v := (1 : Int32)) hx hb dL_law_683 (by decide) ?_
        refine lv_iadd hx hb dL_law_684 ?_
        obtain ⟨hin, h⟩ := h
        refine z_sld hx hb hX hbl hZ hin dL_law_685 ?_
        refine lv_i2l hx hb dL_law_686 rfl ?_
        refine lv_bipush (v := (32 : Int32)) hx hb dL_law_687 (by decide) ?_
        refine lv_lshl hx hb dL_law_689 rfl ?_
        refine lv_aload_n hx hb dL_law_690 rfl (lv_at hl 0 rfl) ?_
        refine lv_iload_n hx hb dL_law_691 rfl (lv_at hl 3 rfl) ?_
        refine lv_iconst (v := (2 : Int32)) hx hb dL_law_692 (by decide) ?_
        refine lv_iadd hx hb dL_law_693 ?_
        obtain ⟨hin, h⟩ := h
        refine z_sld hx hb hX hbl hZ hin dL_law_694 ?_
        refine lv_i2l hx hb dL_law_695 rfl ?_
        refine lv_ldc2 (v := (4294967295 : Int64)) hx hb (A d0).2.2.2.1 ((A d0).2.2.2.2.1 _ k_lc_RL_13) dL_law_696 ?_
        refine lv_land hx hb dL_law_699 ?_
        refine lv_lor hx hb dL_law_700 ?_
        refine z_callV A hd0 hZ (ci := 4) (nA := 1) (As := [.long ((((xs (x3 + (1 : Int32)).toNatClampNeg).toInt64) <<< ((32 : Int32).toInt64 &&& 63)) ||| (((xs (x3 + (2 : Int32)).toNatClampNeg).toInt64) &&& (4294967295 : Int64)))]) (by decide) (isO_c (a := 0) hZ.k0 (by decide) rfl) (c_X4_drop l G base M 0 ((((xs (x3 + (1 : Int32)).toNatClampNeg).toInt64) <<< ((32 : Int32).toInt64 &&& 63)) ||| (((xs (x3 + (2 : Int32)).toNatClampNeg).toInt64) &&& (4294967295 : Int64))) _ h) k_ml_RL_77 k_im_yX4_drop k_se_yX4_drop k_in_RX4 k_co_yX4_drop (by decide +kernel) ⟨by decide, by decide⟩ rfl rfl (Nat.le_of_ble_eq_true rfl) hl dL_law_701 (fun v M183 H locs d0 cells slots hq hd0 hZ hm => ?_)
        clear h
        obtain ⟨i184, rfl, h⟩ := hq
        refine lv_aload_n hx hb dL_law_704 rfl (lv_at hl 2 rfl) ?_
        refine lv_aload_n hx hb dL_law_705 rfl (lv_at hl 0 rfl) ?_
        refine lv_iload_n hx hb dL_law_706 rfl (lv_at hl 3 rfl) ?_
        refine lv_iconst (v := (1 : Int32)) hx hb dL_law_707 (by decide) ?_
        refine lv_iadd hx hb dL_law_708 ?_
        obtain ⟨hin, h⟩ := h
        refine z_sld hx hb hX hbl hZ hin dL_law_709 ?_
        refine lv_i2l hx hb dL_law_710 rfl ?_
        refine lv_bipush (v := (32 : Int32)) hx hb dL_law_711 (by decide) ?_
        refine lv_lshl hx hb dL_law_713 rfl ?_
        refine lv_aload_n hx hb dL_law_714 rfl (lv_at hl 0 rfl) ?_
        refine lv_iload_n hx hb dL_law_715 rfl (lv_at hl 3 rfl) ?_
        refine lv_iconst (v := (2 : Int32)) hx hb dL_law_716 (by decide) ?_
        refine lv_iadd hx hb dL_law_717 ?_
        obtain ⟨hin, h⟩ := h
        refine z_sld hx hb hX hbl hZ hin dL_law_718 ?_
        refine lv_i2l hx hb dL_law_719 rfl ?_
        refine lv_ldc2 (v := (4294967295 : Int64)) hx hb (A d0).2.2.2.1 ((A d0).2.2.2.2.1 _ k_lc_RL_13) dL_law_720 ?_
        refine lv_land hx hb dL_law_723 ?_
        refine lv_lor hx hb dL_law_724 ?_
        refine z_callV A hd0 hZ (ci := 5) (nA := 1) (As := [.long ((((xs (x3 + (1 : Int32)).toNatClampNeg).toInt64) <<< ((32 : Int32).toInt64 &&& 63)) ||| (((xs (x3 + (2 : Int32)).toNatClampNeg).toInt64) &&& (4294967295 : Int64)))]) (by decide) (isO_c (a := 69) hZ.k0 (by decide) rfl) (c_X5_drop l G base M183 69 ((((xs (x3 + (1 : Int32)).toNatClampNeg).toInt64) <<< ((32 : Int32).toInt64 &&& 63)) ||| (((xs (x3 + (2 : Int32)).toNatClampNeg).toInt64) &&& (4294967295 : Int64))) _ h) k_ml_RL_80 k_im_yX5_drop k_se_yX5_drop k_in_RX5 k_co_yX5_drop (by decide +kernel) ⟨by decide, by decide⟩ rfl rfl (Nat.le_of_ble_eq_true rfl) hl dL_law_725 (fun v M185 H locs d0 cells slots hq hd0 hZ hm => ?_)
        clear h
        obtain ⟨i186, rfl, h⟩ := hq
        refine lv_icmp_eq (tgt := 1359) hx hb dL_law_728 (by decide) (fun hc => ?_) (fun hc => ?_)
        · replace h := h.1 hc
          exact (zb_L_law_1359 A hr hlocks hX hbl hbase hd0 hZ (lv_sub hl [0, 1, 2, 3] rfl) h (fun hd0 hZ hl h => ih hd0 hZ hl h))
        · replace h := h.2 hc
          refine lv_iconst (v := (0 : Int32)) hx hb dL_law_731 (by decide) ?_
          exact h.elim
      by_cases hc15 : (xs x3.toNatClampNeg) &&& (31 : Int32) = 15
      · refine lv_tableIn (off := 700) (tgt := 733) hx hb dL_law_33 (by rw [hc15]; decide) (by rw [hc15]; decide) (by rw [hc15]; rfl) (by decide) ?_
        replace h := h.2.2.2.2.2.2.2.2.2.2.2.2.2.2.2.1 hc15
        refine lv_aload_n hx hb dL_law_733 rfl (lv_at hl 1 rfl) ?_
        refine lv_aload_n hx hb dL_law_734 rfl (lv_at hl 0 rfl) ?_
        refine lv_iload_n hx hb dL_law_735 rfl (lv_at hl 3 rfl) ?_
        refine lv_iconst (v := (1 : Int32)) hx hb dL_law_736 (by decide) ?_
        refine lv_iadd hx hb dL_law_737 ?_
        obtain ⟨hin, h⟩ := h
        refine z_sld hx hb hX hbl hZ hin dL_law_738 ?_
        refine z_callV A hd0 hZ (ci := 4) (nA := 1) (As := [.int (xs (x3 + (1 : Int32)).toNatClampNeg)]) (by decide) (isO_c (a := 0) hZ.k0 (by decide) rfl) (c_X4_at l G base M 0 (xs (x3 + (1 : Int32)).toNatClampNeg) _ h) k_ml_RL_81 k_im_yX4_at k_se_yX4_at k_in_RX4 k_co_yX4_at (by decide +kernel) ⟨by decide, by decide⟩ rfl rfl (Nat.le_of_ble_eq_true rfl) hl dL_law_739 (fun v M187 H locs d0 cells slots hq hd0 hZ hm => ?_)
        clear h
        obtain ⟨j188, rfl, h⟩ := hq
        refine lv_aload_n hx hb dL_law_742 rfl (lv_at hl 2 rfl) ?_
        refine lv_aload_n hx hb dL_law_743 rfl (lv_at hl 0 rfl) ?_
        refine lv_iload_n hx hb dL_law_744 rfl (lv_at hl 3 rfl) ?_
        refine lv_iconst (v := (1 : Int32)) hx hb dL_law_745 (by decide) ?_
        refine lv_iadd hx hb dL_law_746 ?_
        obtain ⟨hin, h⟩ := h
        refine z_sld hx hb hX hbl hZ hin dL_law_747 ?_
        refine z_callV A hd0 hZ (ci := 5) (nA := 1) (As := [.int (xs (x3 + (1 : Int32)).toNatClampNeg)]) (by decide) (isO_c (a := 69) hZ.k0 (by decide) rfl) (c_X5_at l G base M187 69 (xs (x3 + (1 : Int32)).toNatClampNeg) _ h) k_ml_RL_85 k_im_yX5_at k_se_yX5_at k_in_RX5 k_co_yX5_at (by decide +kernel) ⟨by decide, by decide⟩ rfl rfl (Nat.le_of_ble_eq_true rfl) hl dL_law_748 (fun v M189 H locs d0 cells slots hq hd0 hZ hm => ?_)
        clear h
        obtain ⟨j190, rfl, h⟩ := hq
        refine z_lc_eq (tgt := 1359) hx hb dL_law_751 dL_law_752 (by decide) (fun hc => ?_) (fun hc => ?_)
        · replace h := h.1 hc
          exact (zb_L_law_1359 A hr hlocks hX hbl hbase hd0 hZ (lv_sub hl [0, 1, 2, 3] rfl) h (fun hd0 hZ hl h => ih hd0 hZ hl h))
        · replace h := h.2 hc
          refine lv_iconst (v := (0 : Int32)) hx hb dL_law_755 (by decide) ?_
          exact h.elim
      by_cases hc16 : (xs x3.toNatClampNeg) &&& (31 : Int32) = 16
      · refine lv_tableIn (off := 724) (tgt := 757) hx hb dL_law_33 (by rw [hc16]; decide) (by rw [hc16]; decide) (by rw [hc16]; rfl) (by decide) ?_
        replace h := h.2.2.2.2.2.2.2.2.2.2.2.2.2.2.2.2.1 hc16
        refine lv_aload_n hx hb dL_law_757 rfl (lv_at hl 1 rfl) ?_
        refine lv_aload_n hx hb dL_law_758 rfl (lv_at hl 0 rfl) ?_
        refine lv_iload_n hx hb dL_law_759 rfl (lv_at hl 3 rfl) ?_
        refine lv_iconst (v := (1 : Int32)) hx hb dL_law_760 (by decide) ?_
        refine lv_iadd hx hb dL_law_761 ?_
        obtain ⟨hin, h⟩ := h
        refine z_sld hx hb hX hbl hZ hin dL_law_762 ?_
        refine lv_i2l hx hb dL_law_763 rfl ?_
        refine lv_bipush (v := (32 : Int32)) hx hb dL_law_764 (by decide) ?_
        refine lv_lshl hx hb dL_law_766 rfl ?_
        refine lv_aload_n hx hb dL_law_767 rfl (lv_at hl 0 rfl) ?_
        refine lv_iload_n hx hb dL_law_768 rfl (lv_at hl 3 rfl) ?_
        refine lv_iconst (v := (2 : Int32)) hx hb dL_law_769 (by decide) ?_
        refine lv_iadd hx hb dL_law_770 ?_
        obtain ⟨hin, h⟩ := h
        refine z_sld hx hb hX hbl hZ hin dL_law_771 ?_
        refine lv_i2l hx hb dL_law_772 rfl ?_
        refine lv_ldc2 (v := (4294967295 : Int64)) hx hb (A d0).2.2.2.1 ((A d0).2.2.2.2.1 _ k_lc_RL_13) dL_law_773 ?_
        refine lv_land hx hb dL_law_776 ?_
        refine lv_lor hx hb dL_law_777 ?_
        refine z_callV A hd0 hZ (ci := 4) (nA := 1) (As := [.long ((((xs (x3 + (1 : Int32)).toNatClampNeg).toInt64) <<< ((32 : Int32).toInt64 &&& 63)) ||| (((xs (x3 + (2 : Int32)).toNatClampNeg).toInt64) &&& (4294967295 : Int64)))]) (by decide) (isO_c (a := 0) hZ.k0 (by decide) rfl) (c_X4_below l G base M 0 ((((xs (x3 + (1 : Int32)).toNatClampNeg).toInt64) <<< ((32 : Int32).toInt64 &&& 63)) ||| (((xs (x3 + (2 : Int32)).toNatClampNeg).toInt64) &&& (4294967295 : Int64))) _ h) k_ml_RL_86 k_im_yX4_below k_se_yX4_below k_in_RX4 k_co_yX4_below (by decide +kernel) ⟨by decide, by decide⟩ rfl rfl (Nat.le_of_ble_eq_true rfl) hl dL_law_778 (fun v M191 H locs d0 cells slots hq hd0 hZ hm => ?_)
        clear h
        obtain ⟨i192, rfl, h⟩ := hq
        refine lv_aload_n hx hb dL_law_781 rfl (lv_at hl 2 rfl) ?_
        refine lv_aload_n hx hb dL_law_782 rfl (lv_at hl 0 rfl) ?_
        refine lv_iload_n hx hb dL_law_783 rfl (lv_at hl 3 rfl) ?_
        refine lv_iconst (v := (1 : Int32)) hx hb dL_law_784 (by decide) ?_
        refine lv_iadd hx hb dL_law_785 ?_
        obtain ⟨hin, h⟩ := h
        refine z_sld hx hb hX hbl hZ hin dL_law_786 ?_
        refine lv_i2l hx hb dL_law_787 rfl ?_
        refine lv_bipush (v := (32 : Int32)) hx hb dL_law_788 (by decide) ?_
        refine lv_lshl hx hb dL_law_790 rfl ?_
        refine lv_aload_n hx hb dL_law_791 rfl (lv_at hl 0 rfl) ?_
        refine lv_iload_n hx hb dL_law_792 rfl (lv_at hl 3 rfl) ?_
        refine lv_iconst (v := (2 : Int32)) hx hb dL_law_793 (by decide) ?_
        refine lv_iadd hx hb dL_law_794 ?_
        obtain ⟨hin, h⟩ := h
        refine z_sld hx hb hX hbl hZ hin dL_law_795 ?_
        refine lv_i2l hx hb dL_law_796 rfl ?_
        refine lv_ldc2 (v := (4294967295 : Int64)) hx hb (A d0).2.2.2.1 ((A d0).2.2.2.2.1 _ k_lc_RL_13) dL_law_797 ?_
        refine lv_land hx hb dL_law_800 ?_
        refine lv_lor hx hb dL_law_801 ?_
        refine z_callV A hd0 hZ (ci := 5) (nA := 1) (As := [.long ((((xs (x3 + (1 : Int32)).toNatClampNeg).toInt64) <<< ((32 : Int32).toInt64 &&& 63)) ||| (((xs (x3 + (2 : Int32)).toNatClampNeg).toInt64) &&& (4294967295 : Int64)))]) (by decide) (isO_c (a := 69) hZ.k0 (by decide) rfl) (c_X5_below l G base M191 69 ((((xs (x3 + (1 : Int32)).toNatClampNeg).toInt64) <<< ((32 : Int32).toInt64 &&& 63)) ||| (((xs (x3 + (2 : Int32)).toNatClampNeg).toInt64) &&& (4294967295 : Int64))) _ h) k_ml_RL_89 k_im_yX5_below k_se_yX5_below k_in_RX5 k_co_yX5_below (by decide +kernel) ⟨by decide, by decide⟩ rfl rfl (Nat.le_of_ble_eq_true rfl) hl dL_law_802 (fun v M193 H locs d0 cells slots hq hd0 hZ hm => ?_)
        clear h
        obtain ⟨i194, rfl, h⟩ := hq
        refine lv_icmp_eq (tgt := 1359) hx hb dL_law_805 (by decide) (fun hc => ?_) (fun hc => ?_)
        · replace h := h.1 hc
          exact (zb_L_law_1359 A hr hlocks hX hbl hbase hd0 hZ (lv_sub hl [0, 1, 2, 3] rfl) h (fun hd0 hZ hl h => ih hd0 hZ hl h))
        · replace h := h.2 hc
          refine lv_iconst (v := (0 : Int32)) hx hb dL_law_808 (by decide) ?_
          exact h.elim
      by_cases hc17 : (xs x3.toNatClampNeg) &&& (31 : Int32) = 17
      · refine lv_tableIn (off := 777) (tgt := 810) hx hb dL_law_33 (by rw [hc17]; decide) (by rw [hc17]; decide) (by rw [hc17]; rfl) (by decide) ?_
        replace h := h.2.2.2.2.2.2.2.2.2.2.2.2.2.2.2.2.2.1 hc17
        refine lv_aload_n hx hb dL_law_810 rfl (lv_at hl 1 rfl) ?_
        refine lv_aload_n hx hb dL_law_811 rfl (lv_at hl 0 rfl) ?_
        refine lv_iload_n hx hb dL_law_812 rfl (lv_at hl 3 rfl) ?_
        refine lv_iconst (v := (1 : Int32)) hx hb dL_law_813 (by decide) ?_
        refine lv_iadd hx hb dL_law_814 ?_
        obtain ⟨hin, h⟩ := h
        refine z_sld hx hb hX hbl hZ hin dL_law_815 ?_
        refine lv_i2l hx hb dL_law_816 rfl ?_
        refine lv_bipush (v := (32 : Int32)) hx hb dL_law_817 (by decide) ?_
        refine lv_lshl hx hb dL_law_819 rfl ?_
        refine lv_aload_n hx hb dL_law_820 rfl (lv_at hl 0 rfl) ?_
        refine lv_iload_n hx hb dL_law_821 rfl (lv_at hl 3 rfl) ?_
        refine lv_iconst (v := (2 : Int32)) hx hb dL_law_822 (by decide) ?_
        refine lv_iadd hx hb dL_law_823 ?_
        obtain ⟨hin, h⟩ := h
        refine z_sld hx hb hX hbl hZ hin dL_law_824 ?_
        refine lv_i2l hx hb dL_law_825 rfl ?_
        refine lv_ldc2 (v := (4294967295 : Int64)) hx hb (A d0).2.2.2.1 ((A d0).2.2.2.2.1 _ k_lc_RL_13) dL_law_826 ?_
        refine lv_land hx hb dL_law_829 ?_
        refine lv_lor hx hb dL_law_830 ?_
        refine z_callV A hd0 hZ (ci := 4) (nA := 1) (As := [.long ((((xs (x3 + (1 : Int32)).toNatClampNeg).toInt64) <<< ((32 : Int32).toInt64 &&& 63)) ||| (((xs (x3 + (2 : Int32)).toNatClampNeg).toInt64) &&& (4294967295 : Int64)))]) (by decide) (isO_c (a := 0) hZ.k0 (by decide) rfl) (c_X4_above l G base M 0 ((((xs (x3 + (1 : Int32)).toNatClampNeg).toInt64) <<< ((32 : Int32).toInt64 &&& 63)) ||| (((xs (x3 + (2 : Int32)).toNatClampNeg).toInt64) &&& (4294967295 : Int64))) _ h) k_ml_RL_90 k_im_yX4_above k_se_yX4_above k_in_RX4 k_co_yX4_above (by decide +kernel) ⟨by decide, by decide⟩ rfl rfl (Nat.le_of_ble_eq_true rfl) hl dL_law_831 (fun v M195 H locs d0 cells slots hq hd0 hZ hm => ?_)
        clear h
        obtain ⟨j196, rfl, h⟩ := hq
        refine lv_aload_n hx hb dL_law_834 rfl (lv_at hl 2 rfl) ?_
        refine lv_aload_n hx hb dL_law_835 rfl (lv_at hl 0 rfl) ?_
        refine lv_iload_n hx hb dL_law_836 rfl (lv_at hl 3 rfl) ?_
        refine lv_iconst (v := (1 : Int32)) hx hb dL_law_837 (by decide) ?_
        refine lv_iadd hx hb dL_law_838 ?_
        obtain ⟨hin, h⟩ := h
        refine z_sld hx hb hX hbl hZ hin dL_law_839 ?_
        refine lv_i2l hx hb dL_law_840 rfl ?_
        refine lv_bipush (v := (32 : Int32)) hx hb dL_law_841 (by decide) ?_
        refine lv_lshl hx hb dL_law_843 rfl ?_
        refine lv_aload_n hx hb dL_law_844 rfl (lv_at hl 0 rfl) ?_
        refine lv_iload_n hx hb dL_law_845 rfl (lv_at hl 3 rfl) ?_
        refine lv_iconst (v := (2 : Int32)) hx hb dL_law_846 (by decide) ?_
        refine lv_iadd hx hb dL_law_847 ?_
        obtain ⟨hin, h⟩ := h
        refine z_sld hx hb hX hbl hZ hin dL_law_848 ?_
        refine lv_i2l hx hb dL_law_849 rfl ?_
        refine lv_ldc2 (v := (4294967295 : Int64)) hx hb (A d0).2.2.2.1 ((A d0).2.2.2.2.1 _ k_lc_RL_13) dL_law_850 ?_
        refine lv_land hx hb dL_law_853 ?_
        refine lv_lor hx hb dL_law_854 ?_
        refine z_callV A hd0 hZ (ci := 5) (nA := 1) (As := [.long ((((xs (x3 + (1 : Int32)).toNatClampNeg).toInt64) <<< ((32 : Int32).toInt64 &&& 63)) ||| (((xs (x3 + (2 : Int32)).toNatClampNeg).toInt64) &&& (4294967295 : Int64)))]) (by decide) (isO_c (a := 69) hZ.k0 (by decide) rfl) (c_X5_above l G base M195 69 ((((xs (x3 + (1 : Int32)).toNatClampNeg).toInt64) <<< ((32 : Int32).toInt64 &&& 63)) ||| (((xs (x3 + (2 : Int32)).toNatClampNeg).toInt64) &&& (4294967295 : Int64))) _ h) k_ml_RL_94 k_im_yX5_above k_se_yX5_above k_in_RX5 k_co_yX5_above (by decide +kernel) ⟨by decide, by decide⟩ rfl rfl (Nat.le_of_ble_eq_true rfl) hl dL_law_855 (fun v M197 H locs d0 cells slots hq hd0 hZ hm => ?_)
        clear h
        obtain ⟨j198, rfl, h⟩ := hq
        refine z_lc_eq (tgt := 1359) hx hb dL_law_858 dL_law_859 (by decide) (fun hc => ?_) (fun hc => ?_)
        · replace h := h.1 hc
          exact (zb_L_law_1359 A hr hlocks hX hbl hbase hd0 hZ (lv_sub hl [0, 1, 2, 3] rfl) h (fun hd0 hZ hl h => ih hd0 hZ hl h))
        · replace h := h.2 hc
          refine lv_iconst (v := (0 : Int32)) hx hb dL_law_862 (by decide) ?_
          exact h.elim
      by_cases hc18 : (xs x3.toNatClampNeg) &&& (31 : Int32) = 18
      · refine lv_tableIn (off := 831) (tgt := 864) hx hb dL_law_33 (by rw [hc18]; decide) (by rw [hc18]; decide) (by rw [hc18]; rfl) (by decide) ?_
        replace h := h.2.2.2.2.2.2.2.2.2.2.2.2.2.2.2.2.2.2.1 hc18
        refine lv_aload_n hx hb dL_law_864 rfl (lv_at hl 1 rfl) ?_
        refine lv_aload_n hx hb dL_law_865 rfl (lv_at hl 0 rfl) ?_
        refine lv_iload_n hx hb dL_law_866 rfl (lv_at hl 3 rfl) ?_
        refine lv_iconst (v := (1 : Int32)) hx hb dL_law_867 (by decide) ?_
        refine lv_iadd hx hb dL_law_868 ?_
        obtain ⟨hin, h⟩ := h
        refine z_sld hx hb hX hbl hZ hin dL_law_869 ?_
        refine lv_i2l hx hb dL_law_870 rfl ?_
        refine lv_bipush (v := (32 : Int32)) hx hb dL_law_871 (by decide) ?_
        refine lv_lshl hx hb dL_law_873 rfl ?_
        refine lv_aload_n hx hb dL_law_874 rfl (lv_at hl 0 rfl) ?_
        refine lv_iload_n hx hb dL_law_875 rfl (lv_at hl 3 rfl) ?_
        refine lv_iconst (v := (2 : Int32)) hx hb dL_law_876 (by decide) ?_
        refine lv_iadd hx hb dL_law_877 ?_
        obtain ⟨hin, h⟩ := h
        refine z_sld hx hb hX hbl hZ hin dL_law_878 ?_
        refine lv_i2l hx hb dL_law_879 rfl ?_
        refine lv_ldc2 (v := (4294967295 : Int64)) hx hb (A d0).2.2.2.1 ((A d0).2.2.2.2.1 _ k_lc_RL_13) dL_law_880 ?_
        refine lv_land hx hb dL_law_883 ?_
        refine lv_lor hx hb dL_law_884 ?_
        refine lv_aload_n hx hb dL_law_885 rfl (lv_at hl 0 rfl) ?_
        refine lv_iload_n hx hb dL_law_886 rfl (lv_at hl 3 rfl) ?_
        refine lv_iconst (v := (3 : Int32)) hx hb dL_law_887 (by decide) ?_
        refine lv_iadd hx hb dL_law_888 ?_
        obtain ⟨hin, h⟩ := h
        refine z_sld hx hb hX hbl hZ hin dL_law_889 ?_
        refine lv_i2l hx hb dL_law_890 rfl ?_
        refine lv_bipush (v := (32 : Int32)) hx hb dL_law_891 (by decide) ?_
        refine lv_lshl hx hb dL_law_893 rfl ?_
        refine lv_aload_n hx hb dL_law_894 rfl (lv_at hl 0 rfl) ?_
        refine lv_iload_n hx hb dL_law_895 rfl (lv_at hl 3 rfl) ?_
        refine lv_iconst (v := (4 : Int32)) hx hb dL_law_896 (by decide) ?_
        refine lv_iadd hx hb dL_law_897 ?_
        obtain ⟨hin, h⟩ := h
        refine z_sld hx hb hX hbl hZ hin dL_law_898 ?_
        refine lv_i2l hx hb dL_law_899 rfl ?_
        refine lv_ldc2 (v := (4294967295 : Int64)) hx hb (A d0).2.2.2.1 ((A d0).2.2.2.2.1 _ k_lc_RL_13) dL_law_900 ?_
        refine lv_land hx hb dL_law_903 ?_
        refine lv_lor hx hb dL_law_904 ?_
        refine z_callV A hd0 hZ (ci := 4) (nA := 2) (As := [.long ((((xs (x3 + (1 : Int32)).toNatClampNeg).toInt64) <<< ((32 : Int32).toInt64 &&& 63)) ||| (((xs (x3 + (2 : Int32)).toNatClampNeg).toInt64) &&& (4294967295 : Int64))), .long ((((xs (x3 + (3 : Int32)).toNatClampNeg).toInt64) <<< ((32 : Int32).toInt64 &&& 63)) ||| (((xs (x3 + (4 : Int32)).toNatClampNeg).toInt64) &&& (4294967295 : Int64)))]) (by decide) (isO_c (a := 0) hZ.k0 (by decide) rfl) (c_X4_between l G base M 0 ((((xs (x3 + (1 : Int32)).toNatClampNeg).toInt64) <<< ((32 : Int32).toInt64 &&& 63)) ||| (((xs (x3 + (2 : Int32)).toNatClampNeg).toInt64) &&& (4294967295 : Int64))) ((((xs (x3 + (3 : Int32)).toNatClampNeg).toInt64) <<< ((32 : Int32).toInt64 &&& 63)) ||| (((xs (x3 + (4 : Int32)).toNatClampNeg).toInt64) &&& (4294967295 : Int64))) _ h) k_ml_RL_95 k_im_yX4_between k_se_yX4_between k_in_RX4 k_co_yX4_between (by decide +kernel) ⟨by decide, by decide⟩ rfl rfl (Nat.le_of_ble_eq_true rfl) hl dL_law_905 (fun v M199 H locs d0 cells slots hq hd0 hZ hm => ?_)
        clear h
        obtain ⟨i200, rfl, h⟩ := hq
        refine lv_aload_n hx hb dL_law_908 rfl (lv_at hl 2 rfl) ?_
        refine lv_aload_n hx hb dL_law_909 rfl (lv_at hl 0 rfl) ?_
        refine lv_iload_n hx hb dL_law_910 rfl (lv_at hl 3 rfl) ?_
        refine lv_iconst (v := (1 : Int32)) hx hb dL_law_911 (by decide) ?_
        refine lv_iadd hx hb dL_law_912 ?_
        obtain ⟨hin, h⟩ := h
        refine z_sld hx hb hX hbl hZ hin dL_law_913 ?_
        refine lv_i2l hx hb dL_law_914 rfl ?_
        refine lv_bipush (v := (32 : Int32)) hx hb dL_law_915 (by decide) ?_
        refine lv_lshl hx hb dL_law_917 rfl ?_
        refine lv_aload_n hx hb dL_law_918 rfl (lv_at hl 0 rfl) ?_
        refine lv_iload_n hx hb dL_law_919 rfl (lv_at hl 3 rfl) ?_
        refine lv_iconst (v := (2 : Int32)) hx hb dL_law_920 (by decide) ?_
        refine lv_iadd hx hb dL_law_921 ?_
        obtain ⟨hin, h⟩ := h
        refine z_sld hx hb hX hbl hZ hin dL_law_922 ?_
        refine lv_i2l hx hb dL_law_923 rfl ?_
        refine lv_ldc2 (v := (4294967295 : Int64)) hx hb (A d0).2.2.2.1 ((A d0).2.2.2.2.1 _ k_lc_RL_13) dL_law_924 ?_
        refine lv_land hx hb dL_law_927 ?_
        refine lv_lor hx hb dL_law_928 ?_
        refine lv_aload_n hx hb dL_law_929 rfl (lv_at hl 0 rfl) ?_
        refine lv_iload_n hx hb dL_law_930 rfl (lv_at hl 3 rfl) ?_
        refine lv_iconst (v := (3 : Int32)) hx hb dL_law_931 (by decide) ?_
        refine lv_iadd hx hb dL_law_932 ?_
        obtain ⟨hin, h⟩ := h
        refine z_sld hx hb hX hbl hZ hin dL_law_933 ?_
        refine lv_i2l hx hb dL_law_934 rfl ?_
        refine lv_bipush (v := (32 : Int32)) hx hb dL_law_935 (by decide) ?_
        refine lv_lshl hx hb dL_law_937 rfl ?_
        refine lv_aload_n hx hb dL_law_938 rfl (lv_at hl 0 rfl) ?_
        refine lv_iload_n hx hb dL_law_939 rfl (lv_at hl 3 rfl) ?_
        refine lv_iconst (v := (4 : Int32)) hx hb dL_law_940 (by decide) ?_
        refine lv_iadd hx hb dL_law_941 ?_
        obtain ⟨hin, h⟩ := h
        refine z_sld hx hb hX hbl hZ hin dL_law_942 ?_
        refine lv_i2l hx hb dL_law_943 rfl ?_
        refine lv_ldc2 (v := (4294967295 : Int64)) hx hb (A d0).2.2.2.1 ((A d0).2.2.2.2.1 _ k_lc_RL_13) dL_law_944 ?_
        refine lv_land hx hb dL_law_947 ?_
        refine lv_lor hx hb dL_law_948 ?_
        refine z_callV A hd0 hZ (ci := 5) (nA := 2) (As := [.long ((((xs (x3 + (1 : Int32)).toNatClampNeg).toInt64) <<< ((32 : Int32).toInt64 &&& 63)) ||| (((xs (x3 + (2 : Int32)).toNatClampNeg).toInt64) &&& (4294967295 : Int64))), .long ((((xs (x3 + (3 : Int32)).toNatClampNeg).toInt64) <<< ((32 : Int32).toInt64 &&& 63)) ||| (((xs (x3 + (4 : Int32)).toNatClampNeg).toInt64) &&& (4294967295 : Int64)))]) (by decide) (isO_c (a := 69) hZ.k0 (by decide) rfl) (c_X5_between l G base M199 69 ((((xs (x3 + (1 : Int32)).toNatClampNeg).toInt64) <<< ((32 : Int32).toInt64 &&& 63)) ||| (((xs (x3 + (2 : Int32)).toNatClampNeg).toInt64) &&& (4294967295 : Int64))) ((((xs (x3 + (3 : Int32)).toNatClampNeg).toInt64) <<< ((32 : Int32).toInt64 &&& 63)) ||| (((xs (x3 + (4 : Int32)).toNatClampNeg).toInt64) &&& (4294967295 : Int64))) _ h) k_ml_RL_99 k_im_yX5_between k_se_yX5_between k_in_RX5 k_co_yX5_between (by decide +kernel) ⟨by decide, by decide⟩ rfl rfl (Nat.le_of_ble_eq_true rfl) hl dL_law_949 (fun v M201 H locs d0 cells slots hq hd0 hZ hm => ?_)
        clear h
        obtain ⟨i202, rfl, h⟩ := hq
        refine lv_icmp_eq (tgt := 1359) hx hb dL_law_952 (by decide) (fun hc => ?_) (fun hc => ?_)
        · replace h := h.1 hc
          exact (zb_L_law_1359 A hr hlocks hX hbl hbase hd0 hZ (lv_sub hl [0, 1, 2, 3] rfl) h (fun hd0 hZ hl h => ih hd0 hZ hl h))
        · replace h := h.2 hc
          refine lv_iconst (v := (0 : Int32)) hx hb dL_law_955 (by decide) ?_
          exact h.elim
      by_cases hc19 : (xs x3.toNatClampNeg) &&& (31 : Int32) = 19
      · refine lv_tableIn (off := 924) (tgt := 957) hx hb dL_law_33 (by rw [hc19]; decide) (by rw [hc19]; decide) (by rw [hc19]; rfl) (by decide) ?_
        replace h := h.2.2.2.2.2.2.2.2.2.2.2.2.2.2.2.2.2.2.2.1 hc19
        refine lv_aload_n hx hb dL_law_957 rfl (lv_at hl 1 rfl) ?_
        refine z_callV A hd0 hZ (ci := 4) (nA := 0) (As := []) (by decide) (isO_c (a := 0) hZ.k0 (by decide) rfl) (c_X4_layers l G base M 0 _ h) k_ml_RL_100 k_im_yX4_layers k_se_yX4_layers k_in_RX4 k_co_yX4_layers (by decide +kernel) ⟨by decide, by decide⟩ rfl rfl (Nat.le_of_ble_eq_true rfl) hl dL_law_958 (fun v M203 H locs d0 cells slots hq hd0 hZ hm => ?_)
        clear h
        obtain ⟨i204, rfl, h⟩ := hq
        refine lv_aload_n hx hb dL_law_961 rfl (lv_at hl 2 rfl) ?_
        refine z_callV A hd0 hZ (ci := 5) (nA := 0) (As := []) (by decide) (isO_c (a := 69) hZ.k0 (by decide) rfl) (c_X5_layers l G base M203 69 _ h) k_ml_RL_103 k_im_yX5_layers k_se_yX5_layers k_in_RX5 k_co_yX5_layers (by decide +kernel) ⟨by decide, by decide⟩ rfl rfl (Nat.le_of_ble_eq_true rfl) hl dL_law_962 (fun v M205 H locs d0 cells slots hq hd0 hZ hm => ?_)
        clear h
        obtain ⟨i206, rfl, h⟩ := hq
        refine lv_icmp_eq (tgt := 1359) hx hb dL_law_965 (by decide) (fun hc => ?_) (fun hc => ?_)
        · replace h := h.1 hc
          exact (zb_L_law_1359 A hr hlocks hX hbl hbase hd0 hZ (lv_sub hl [0, 1, 2, 3] rfl) h (fun hd0 hZ hl h => ih hd0 hZ hl h))
        · replace h := h.2 hc
          refine lv_iconst (v := (0 : Int32)) hx hb dL_law_968 (by decide) ?_
          exact h.elim
      by_cases hc20 : (xs x3.toNatClampNeg) &&& (31 : Int32) = 20
      · refine lv_tableIn (off := 937) (tgt := 970) hx hb dL_law_33 (by rw [hc20]; decide) (by rw [hc20]; decide) (by rw [hc20]; rfl) (by decide) ?_
        replace h := h.2.2.2.2.2.2.2.2.2.2.2.2.2.2.2.2.2.2.2.2.1 hc20
        refine lv_aload_n hx hb dL_law_970 rfl (lv_at hl 1 rfl) ?_
        refine lv_aload_n hx hb dL_law_971 rfl (lv_at hl 0 rfl) ?_
        refine lv_iload_n hx hb dL_law_972 rfl (lv_at hl 3 rfl) ?_
        refine lv_iconst (v := (1 : Int32)) hx hb dL_law_973 (by decide) ?_
        refine lv_iadd hx hb dL_law_974 ?_
        obtain ⟨hin, h⟩ := h
        refine z_sld hx hb hX hbl hZ hin dL_law_975 ?_
        refine z_callV A hd0 hZ (ci := 4) (nA := 1) (As := [.int (xs (x3 + (1 : Int32)).toNatClampNeg)]) (by decide) (isO_c (a := 0) hZ.k0 (by decide) rfl) (c_X4_pieces l G base M 0 (xs (x3 + (1 : Int32)).toNatClampNeg) _ h) k_ml_RL_104 k_im_yX4_pieces k_se_yX4_pieces k_in_RX4 k_co_yX4_pieces (by decide +kernel) ⟨by decide, by decide⟩ rfl rfl (Nat.le_of_ble_eq_true rfl) hl dL_law_976 (fun v M207 H locs d0 cells slots hq hd0 hZ hm => ?_)
        clear h
        obtain ⟨i208, rfl, h⟩ := hq
        refine lv_aload_n hx hb dL_law_979 rfl (lv_at hl 2 rfl) ?_
        refine lv_aload_n hx hb dL_law_980 rfl (lv_at hl 0 rfl) ?_
        refine lv_iload_n hx hb dL_law_981 rfl (lv_at hl 3 rfl) ?_
        refine lv_iconst (v := (1 : Int32)) hx hb dL_law_982 (by decide) ?_
        refine lv_iadd hx hb dL_law_983 ?_
        obtain ⟨hin, h⟩ := h
        refine z_sld hx hb hX hbl hZ hin dL_law_984 ?_
        refine z_callV A hd0 hZ (ci := 5) (nA := 1) (As := [.int (xs (x3 + (1 : Int32)).toNatClampNeg)]) (by decide) (isO_c (a := 69) hZ.k0 (by decide) rfl) (c_X5_pieces_ l G base M207 69 (xs (x3 + (1 : Int32)).toNatClampNeg) _ h) k_ml_RL_107 k_im_yX5_pieces_ k_se_yX5_pieces_ k_in_RX5 k_co_yX5_pieces_ (by decide +kernel) ⟨by decide, by decide⟩ rfl rfl (Nat.le_of_ble_eq_true rfl) hl dL_law_985 (fun v M209 H locs d0 cells slots hq hd0 hZ hm => ?_)
        clear h
        obtain ⟨i210, rfl, h⟩ := hq
        refine lv_icmp_eq (tgt := 1359) hx hb dL_law_988 (by decide) (fun hc => ?_) (fun hc => ?_)
        · replace h := h.1 hc
          exact (zb_L_law_1359 A hr hlocks hX hbl hbase hd0 hZ (lv_sub hl [0, 1, 2, 3] rfl) h (fun hd0 hZ hl h => ih hd0 hZ hl h))
        · replace h := h.2 hc
          refine lv_iconst (v := (0 : Int32)) hx hb dL_law_991 (by decide) ?_
          exact h.elim
      by_cases hc21 : (xs x3.toNatClampNeg) &&& (31 : Int32) = 21
      · refine lv_tableIn (off := 960) (tgt := 993) hx hb dL_law_33 (by rw [hc21]; decide) (by rw [hc21]; decide) (by rw [hc21]; rfl) (by decide) ?_
        replace h := h.2.2.2.2.2.2.2.2.2.2.2.2.2.2.2.2.2.2.2.2.2.1 hc21
        refine lv_aload_n hx hb dL_law_993 rfl (lv_at hl 1 rfl) ?_
        refine lv_aload_n hx hb dL_law_994 rfl (lv_at hl 0 rfl) ?_
        refine lv_iload_n hx hb dL_law_995 rfl (lv_at hl 3 rfl) ?_
        refine lv_iconst (v := (1 : Int32)) hx hb dL_law_996 (by decide) ?_
        refine lv_iadd hx hb dL_law_997 ?_
        obtain ⟨hin, h⟩ := h
        refine z_sld hx hb hX hbl hZ hin dL_law_998 ?_
        refine lv_aload_n hx hb dL_law_999 rfl (lv_at hl 0 rfl) ?_
        refine lv_iload_n hx hb dL_law_1000 rfl (lv_at hl 3 rfl) ?_
        refine lv_iconst (v := (2 : Int32)) hx hb dL_law_1001 (by decide) ?_
        refine lv_iadd hx hb dL_law_1002 ?_
        obtain ⟨hin, h⟩ := h
        refine z_sld hx hb hX hbl hZ hin dL_law_1003 ?_
        refine lv_aload_n hx hb dL_law_1004 rfl (lv_at hl 0 rfl) ?_
        refine lv_iload_n hx hb dL_law_1005 rfl (lv_at hl 3 rfl) ?_
        refine lv_iconst (v := (3 : Int32)) hx hb dL_law_1006 (by decide) ?_
        refine lv_iadd hx hb dL_law_1007 ?_
        obtain ⟨hin, h⟩ := h
        refine z_sld hx hb hX hbl hZ hin dL_law_1008 ?_
        refine z_callV A hd0 hZ (ci := 4) (nA := 3) (As := [.int (xs (x3 + (1 : Int32)).toNatClampNeg), .int (xs (x3 + (2 : Int32)).toNatClampNeg), .int (xs (x3 + (3 : Int32)).toNatClampNeg)]) (by decide) (isO_c (a := 0) hZ.k0 (by decide) rfl) (c_X4_piece l G base M 0 (xs (x3 + (1 : Int32)).toNatClampNeg) (xs (x3 + (2 : Int32)).toNatClampNeg) (xs (x3 + (3 : Int32)).toNatClampNeg) _ h) k_ml_RL_108 k_im_yX4_piece k_se_yX4_piece k_in_RX4 k_co_yX4_piece (by decide +kernel) ⟨by decide, by decide⟩ rfl rfl (Nat.le_of_ble_eq_true rfl) hl dL_law_1009 (fun v M211 H locs d0 cells slots hq hd0 hZ hm => ?_)
        clear h
        obtain ⟨i212, rfl, h⟩ := hq
        refine lv_aload_n hx hb dL_law_1012 rfl (lv_at hl 2 rfl) ?_
        refine lv_aload_n hx hb dL_law_1013 rfl (lv_at hl 0 rfl) ?_
        refine lv_iload_n hx hb dL_law_1014 rfl (lv_at hl 3 rfl) ?_
        refine lv_iconst (v := (1 : Int32)) hx hb dL_law_1015 (by decide) ?_
        refine lv_iadd hx hb dL_law_1016 ?_
        obtain ⟨hin, h⟩ := h
        refine z_sld hx hb hX hbl hZ hin dL_law_1017 ?_
        refine lv_aload_n hx hb dL_law_1018 rfl (lv_at hl 0 rfl) ?_
        refine lv_iload_n hx hb dL_law_1019 rfl (lv_at hl 3 rfl) ?_
        refine lv_iconst (v := (2 : Int32)) hx hb dL_law_1020 (by decide) ?_
        refine lv_iadd hx hb dL_law_1021 ?_
        obtain ⟨hin, h⟩ := h
        refine z_sld hx hb hX hbl hZ hin dL_law_1022 ?_
        refine lv_aload_n hx hb dL_law_1023 rfl (lv_at hl 0 rfl) ?_
        refine lv_iload_n hx hb dL_law_1024 rfl (lv_at hl 3 rfl) ?_
        refine lv_iconst (v := (3 : Int32)) hx hb dL_law_1025 (by decide) ?_
        refine lv_iadd hx hb dL_law_1026 ?_
        obtain ⟨hin, h⟩ := h
        refine z_sld hx hb hX hbl hZ hin dL_law_1027 ?_
        refine z_callV A hd0 hZ (ci := 5) (nA := 3) (As := [.int (xs (x3 + (1 : Int32)).toNatClampNeg), .int (xs (x3 + (2 : Int32)).toNatClampNeg), .int (xs (x3 + (3 : Int32)).toNatClampNeg)]) (by decide) (isO_c (a := 69) hZ.k0 (by decide) rfl) (c_X5_piece l G base M211 69 (xs (x3 + (1 : Int32)).toNatClampNeg) (xs (x3 + (2 : Int32)).toNatClampNeg) (xs (x3 + (3 : Int32)).toNatClampNeg) _ h) k_ml_RL_112 k_im_yX5_piece k_se_yX5_piece k_in_RX5 k_co_yX5_piece (by decide +kernel) ⟨by decide, by decide⟩ rfl rfl (Nat.le_of_ble_eq_true rfl) hl dL_law_1028 (fun v M213 H locs d0 cells slots hq hd0 hZ hm => ?_)
        clear h
        obtain ⟨i214, rfl, h⟩ := hq
        refine lv_icmp_eq (tgt := 1359) hx hb dL_law_1031 (by decide) (fun hc => ?_) (fun hc => ?_)
        · replace h := h.1 hc
          exact (zb_L_law_1359 A hr hlocks hX hbl hbase hd0 hZ (lv_sub hl [0, 1, 2, 3] rfl) h (fun hd0 hZ hl h => ih hd0 hZ hl h))
        · replace h := h.2 hc
          refine lv_iconst (v := (0 : Int32)) hx hb dL_law_1034 (by decide) ?_
          exact h.elim
      by_cases hc22 : (xs x3.toNatClampNeg) &&& (31 : Int32) = 22
      · refine lv_tableIn (off := 1003) (tgt := 1036) hx hb dL_law_33 (by rw [hc22]; decide) (by rw [hc22]; decide) (by rw [hc22]; rfl) (by decide) ?_
        replace h := h.2.2.2.2.2.2.2.2.2.2.2.2.2.2.2.2.2.2.2.2.2.2.1 hc22
        refine lv_aload_n hx hb dL_law_1036 rfl (lv_at hl 1 rfl) ?_
        refine lv_aload_n hx hb dL_law_1037 rfl (lv_at hl 0 rfl) ?_
        refine lv_iload_n hx hb dL_law_1038 rfl (lv_at hl 3 rfl) ?_
        refine lv_iconst (v := (1 : Int32)) hx hb dL_law_1039 (by decide) ?_
        refine lv_iadd hx hb dL_law_1040 ?_
        obtain ⟨hin, h⟩ := h
        refine z_sld hx hb hX hbl hZ hin dL_law_1041 ?_
        refine lv_aload_n hx hb dL_law_1042 rfl (lv_at hl 0 rfl) ?_
        refine lv_iload_n hx hb dL_law_1043 rfl (lv_at hl 3 rfl) ?_
        refine lv_iconst (v := (2 : Int32)) hx hb dL_law_1044 (by decide) ?_
        refine lv_iadd hx hb dL_law_1045 ?_
        obtain ⟨hin, h⟩ := h
        refine z_sld hx hb hX hbl hZ hin dL_law_1046 ?_
        refine lv_aload_n hx hb dL_law_1047 rfl (lv_at hl 0 rfl) ?_
        refine lv_iload_n hx hb dL_law_1048 rfl (lv_at hl 3 rfl) ?_
        refine lv_iconst (v := (3 : Int32)) hx hb dL_law_1049 (by decide) ?_
        refine lv_iadd hx hb dL_law_1050 ?_
        obtain ⟨hin, h⟩ := h
        refine z_sld hx hb hX hbl hZ hin dL_law_1051 ?_
        refine z_callV A hd0 hZ (ci := 4) (nA := 3) (As := [.int (xs (x3 + (1 : Int32)).toNatClampNeg), .int (xs (x3 + (2 : Int32)).toNatClampNeg), .int (xs (x3 + (3 : Int32)).toNatClampNeg)]) (by decide) (isO_c (a := 0) hZ.k0 (by decide) rfl) (c_X4_line l G base M 0 (xs (x3 + (1 : Int32)).toNatClampNeg) (xs (x3 + (2 : Int32)).toNatClampNeg) (xs (x3 + (3 : Int32)).toNatClampNeg) _ h) k_ml_RL_113 k_im_yX4_line k_se_yX4_line k_in_RX4 k_co_yX4_line (by decide +kernel) ⟨by decide, by decide⟩ rfl rfl (Nat.le_of_ble_eq_true rfl) hl dL_law_1052 (fun v M215 H locs d0 cells slots hq hd0 hZ hm => ?_)
        clear h
        obtain ⟨j216, rfl, h⟩ := hq
        refine lv_aload_n hx hb dL_law_1055 rfl (lv_at hl 2 rfl) ?_
        refine lv_aload_n hx hb dL_law_1056 rfl (lv_at hl 0 rfl) ?_
        refine lv_iload_n hx hb dL_law_1057 rfl (lv_at hl 3 rfl) ?_
        refine lv_iconst (v := (1 : Int32)) hx hb dL_law_1058 (by decide) ?_
        refine lv_iadd hx hb dL_law_1059 ?_
        obtain ⟨hin, h⟩ := h
        refine z_sld hx hb hX hbl hZ hin dL_law_1060 ?_
        refine lv_aload_n hx hb dL_law_1061 rfl (lv_at hl 0 rfl) ?_
        refine lv_iload_n hx hb dL_law_1062 rfl (lv_at hl 3 rfl) ?_
        refine lv_iconst (v := (2 : Int32)) hx hb dL_law_1063 (by decide) ?_
        refine lv_iadd hx hb dL_law_1064 ?_
        obtain ⟨hin, h⟩ := h
        refine z_sld hx hb hX hbl hZ hin dL_law_1065 ?_
        refine lv_aload_n hx hb dL_law_1066 rfl (lv_at hl 0 rfl) ?_
        refine lv_iload_n hx hb dL_law_1067 rfl (lv_at hl 3 rfl) ?_
        refine lv_iconst (v := (3 : Int32)) hx hb dL_law_1068 (by decide) ?_
        refine lv_iadd hx hb dL_law_1069 ?_
        obtain ⟨hin, h⟩ := h
        refine z_sld hx hb hX hbl hZ hin dL_law_1070 ?_
        refine z_callV A hd0 hZ (ci := 5) (nA := 3) (As := [.int (xs (x3 + (1 : Int32)).toNatClampNeg), .int (xs (x3 + (2 : Int32)).toNatClampNeg), .int (xs (x3 + (3 : Int32)).toNatClampNeg)]) (by decide) (isO_c (a := 69) hZ.k0 (by decide) rfl) (c_X5_line l G base M215 69 (xs (x3 + (1 : Int32)).toNatClampNeg) (xs (x3 + (2 : Int32)).toNatClampNeg) (xs (x3 + (3 : Int32)).toNatClampNeg) _ h) k_ml_RL_117 k_im_yX5_line k_se_yX5_line k_in_RX5 k_co_yX5_line (by decide +kernel) ⟨by decide, by decide⟩ rfl rfl (Nat.le_of_ble_eq_true rfl) hl dL_law_1071 (fun v M217 H locs d0 cells slots hq hd0 hZ hm => ?_)
        clear h
        obtain ⟨j218, rfl, h⟩ := hq
        refine z_lc_eq (tgt := 1359) hx hb dL_law_1074 dL_law_1075 (by decide) (fun hc => ?_) (fun hc => ?_)
        · replace h := h.1 hc
          exact (zb_L_law_1359 A hr hlocks hX hbl hbase hd0 hZ (lv_sub hl [0, 1, 2, 3] rfl) h (fun hd0 hZ hl h => ih hd0 hZ hl h))
        · replace h := h.2 hc
          refine lv_iconst (v := (0 : Int32)) hx hb dL_law_1078 (by decide) ?_
          exact h.elim
      by_cases hc23 : (xs x3.toNatClampNeg) &&& (31 : Int32) = 23
      · refine lv_tableIn (off := 1047) (tgt := 1080) hx hb dL_law_33 (by rw [hc23]; decide) (by rw [hc23]; decide) (by rw [hc23]; rfl) (by decide) ?_
        replace h := h.2.2.2.2.2.2.2.2.2.2.2.2.2.2.2.2.2.2.2.2.2.2.2.1 hc23
        refine lv_aload_n hx hb dL_law_1080 rfl (lv_at hl 1 rfl) ?_
        refine lv_aload_n hx hb dL_law_1081 rfl (lv_at hl 0 rfl) ?_
        refine lv_iload_n hx hb dL_law_1082 rfl (lv_at hl 3 rfl) ?_
        refine lv_iconst (v := (1 : Int32)) hx hb dL_law_1083 (by decide) ?_
        refine lv_iadd hx hb dL_law_1084 ?_
        obtain ⟨hin, h⟩ := h
        refine z_sld hx hb hX hbl hZ hin dL_law_1085 ?_
        refine lv_aload_n hx hb dL_law_1086 rfl (lv_at hl 0 rfl) ?_
        refine lv_iload_n hx hb dL_law_1087 rfl (lv_at hl 3 rfl) ?_
        refine lv_iconst (v := (2 : Int32)) hx hb dL_law_1088 (by decide) ?_
        refine lv_iadd hx hb dL_law_1089 ?_
        obtain ⟨hin, h⟩ := h
        refine z_sld hx hb hX hbl hZ hin dL_law_1090 ?_
        refine lv_aload_n hx hb dL_law_1091 rfl (lv_at hl 0 rfl) ?_
        refine lv_iload_n hx hb dL_law_1092 rfl (lv_at hl 3 rfl) ?_
        refine lv_iconst (v := (3 : Int32)) hx hb dL_law_1093 (by decide) ?_
        refine lv_iadd hx hb dL_law_1094 ?_
        obtain ⟨hin, h⟩ := h
        refine z_sld hx hb hX hbl hZ hin dL_law_1095 ?_
        refine lv_i2l hx hb dL_law_1096 rfl ?_
        refine lv_bipush (v := (32 : Int32)) hx hb dL_law_1097 (by decide) ?_
        refine lv_lshl hx hb dL_law_1099 rfl ?_
        refine lv_aload_n hx hb dL_law_1100 rfl (lv_at hl 0 rfl) ?_
        refine lv_iload_n hx hb dL_law_1101 rfl (lv_at hl 3 rfl) ?_
        refine lv_iconst (v := (4 : Int32)) hx hb dL_law_1102 (by decide) ?_
        refine lv_iadd hx hb dL_law_1103 ?_
        obtain ⟨hin, h⟩ := h
        refine z_sld hx hb hX hbl hZ hin dL_law_1104 ?_
        refine lv_i2l hx hb dL_law_1105 rfl ?_
        refine lv_ldc2 (v := (4294967295 : Int64)) hx hb (A d0).2.2.2.1 ((A d0).2.2.2.2.1 _ k_lc_RL_13) dL_law_1106 ?_
        refine lv_land hx hb dL_law_1109 ?_
        refine lv_lor hx hb dL_law_1110 ?_
        refine z_callV A hd0 hZ (ci := 4) (nA := 3) (As := [.int (xs (x3 + (1 : Int32)).toNatClampNeg), .int (xs (x3 + (2 : Int32)).toNatClampNeg), .long ((((xs (x3 + (3 : Int32)).toNatClampNeg).toInt64) <<< ((32 : Int32).toInt64 &&& 63)) ||| (((xs (x3 + (4 : Int32)).toNatClampNeg).toInt64) &&& (4294967295 : Int64)))]) (by decide) (isO_c (a := 0) hZ.k0 (by decide) rfl) (c_X4_guess l G base M 0 (xs (x3 + (1 : Int32)).toNatClampNeg) (xs (x3 + (2 : Int32)).toNatClampNeg) ((((xs (x3 + (3 : Int32)).toNatClampNeg).toInt64) <<< ((32 : Int32).toInt64 &&& 63)) ||| (((xs (x3 + (4 : Int32)).toNatClampNeg).toInt64) &&& (4294967295 : Int64))) _ h) k_ml_RL_118 k_im_yX4_guess k_se_yX4_guess k_in_RX4 k_co_yX4_guess (by decide +kernel) ⟨by decide, by decide⟩ rfl rfl (Nat.le_of_ble_eq_true rfl) hl dL_law_1111 (fun v M219 H locs d0 cells slots hq hd0 hZ hm => ?_)
        clear h
        obtain ⟨i220, rfl, h⟩ := hq
        refine lv_aload_n hx hb dL_law_1114 rfl (lv_at hl 2 rfl) ?_
        refine lv_aload_n hx hb dL_law_1115 rfl (lv_at hl 0 rfl) ?_
        refine lv_iload_n hx hb dL_law_1116 rfl (lv_at hl 3 rfl) ?_
        refine lv_iconst (v := (1 : Int32)) hx hb dL_law_1117 (by decide) ?_
        refine lv_iadd hx hb dL_law_1118 ?_
        obtain ⟨hin, h⟩ := h
        refine z_sld hx hb hX hbl hZ hin dL_law_1119 ?_
        refine lv_aload_n hx hb dL_law_1120 rfl (lv_at hl 0 rfl) ?_
        refine lv_iload_n hx hb dL_law_1121 rfl (lv_at hl 3 rfl) ?_
        refine lv_iconst (v := (2 : Int32)) hx hb dL_law_1122 (by decide) ?_
        refine lv_iadd hx hb dL_law_1123 ?_
        obtain ⟨hin, h⟩ := h
        refine z_sld hx hb hX hbl hZ hin dL_law_1124 ?_
        refine lv_aload_n hx hb dL_law_1125 rfl (lv_at hl 0 rfl) ?_
        refine lv_iload_n hx hb dL_law_1126 rfl (lv_at hl 3 rfl) ?_
        refine lv_iconst (v := (3 : Int32)) hx hb dL_law_1127 (by decide) ?_
        refine lv_iadd hx hb dL_law_1128 ?_
        obtain ⟨hin, h⟩ := h
        refine z_sld hx hb hX hbl hZ hin dL_law_1129 ?_
        refine lv_i2l hx hb dL_law_1130 rfl ?_
        refine lv_bipush (v := (32 : Int32)) hx hb dL_law_1131 (by decide) ?_
        refine lv_lshl hx hb dL_law_1133 rfl ?_
        refine lv_aload_n hx hb dL_law_1134 rfl (lv_at hl 0 rfl) ?_
        refine lv_iload_n hx hb dL_law_1135 rfl (lv_at hl 3 rfl) ?_
        refine lv_iconst (v := (4 : Int32)) hx hb dL_law_1136 (by decide) ?_
        refine lv_iadd hx hb dL_law_1137 ?_
        obtain ⟨hin, h⟩ := h
        refine z_sld hx hb hX hbl hZ hin dL_law_1138 ?_
        refine lv_i2l hx hb dL_law_1139 rfl ?_
        refine lv_ldc2 (v := (4294967295 : Int64)) hx hb (A d0).2.2.2.1 ((A d0).2.2.2.2.1 _ k_lc_RL_13) dL_law_1140 ?_
        refine lv_land hx hb dL_law_1143 ?_
        refine lv_lor hx hb dL_law_1144 ?_
        refine z_callV A hd0 hZ (ci := 5) (nA := 3) (As := [.int (xs (x3 + (1 : Int32)).toNatClampNeg), .int (xs (x3 + (2 : Int32)).toNatClampNeg), .long ((((xs (x3 + (3 : Int32)).toNatClampNeg).toInt64) <<< ((32 : Int32).toInt64 &&& 63)) ||| (((xs (x3 + (4 : Int32)).toNatClampNeg).toInt64) &&& (4294967295 : Int64)))]) (by decide) (isO_c (a := 69) hZ.k0 (by decide) rfl) (c_X5_guess l G base M219 69 (xs (x3 + (1 : Int32)).toNatClampNeg) (xs (x3 + (2 : Int32)).toNatClampNeg) ((((xs (x3 + (3 : Int32)).toNatClampNeg).toInt64) <<< ((32 : Int32).toInt64 &&& 63)) ||| (((xs (x3 + (4 : Int32)).toNatClampNeg).toInt64) &&& (4294967295 : Int64))) _ h) k_ml_RL_122 k_im_yX5_guess k_se_yX5_guess k_in_RX5 k_co_yX5_guess (by decide +kernel) ⟨by decide, by decide⟩ rfl rfl (Nat.le_of_ble_eq_true rfl) hl dL_law_1145 (fun v M221 H locs d0 cells slots hq hd0 hZ hm => ?_)
        clear h
        obtain ⟨i222, rfl, h⟩ := hq
        refine lv_icmp_eq (tgt := 1359) hx hb dL_law_1148 (by decide) (fun hc => ?_) (fun hc => ?_)
        · replace h := h.1 hc
          exact (zb_L_law_1359 A hr hlocks hX hbl hbase hd0 hZ (lv_sub hl [0, 1, 2, 3] rfl) h (fun hd0 hZ hl h => ih hd0 hZ hl h))
        · replace h := h.2 hc
          refine lv_iconst (v := (0 : Int32)) hx hb dL_law_1151 (by decide) ?_
          exact h.elim
      by_cases hc24 : (xs x3.toNatClampNeg) &&& (31 : Int32) = 24
      · refine lv_tableIn (off := 1120) (tgt := 1153) hx hb dL_law_33 (by rw [hc24]; decide) (by rw [hc24]; decide) (by rw [hc24]; rfl) (by decide) ?_
        replace h := h.2.2.2.2.2.2.2.2.2.2.2.2.2.2.2.2.2.2.2.2.2.2.2.2.1 hc24
        refine lv_aload_n hx hb dL_law_1153 rfl (lv_at hl 1 rfl) ?_
        refine lv_aload_n hx hb dL_law_1154 rfl (lv_at hl 0 rfl) ?_
        refine lv_iload_n hx hb dL_law_1155 rfl (lv_at hl 3 rfl) ?_
        refine lv_iconst (v := (1 : Int32)) hx hb dL_law_1156 (by decide) ?_
        refine lv_iadd hx hb dL_law_1157 ?_
        obtain ⟨hin, h⟩ := h
        refine z_sld hx hb hX hbl hZ hin dL_law_1158 ?_
        refine lv_aload_n hx hb dL_law_1159 rfl (lv_at hl 0 rfl) ?_
        refine lv_iload_n hx hb dL_law_1160 rfl (lv_at hl 3 rfl) ?_
        refine lv_iconst (v := (2 : Int32)) hx hb dL_law_1161 (by decide) ?_
        refine lv_iadd hx hb dL_law_1162 ?_
        obtain ⟨hin, h⟩ := h
        refine z_sld hx hb hX hbl hZ hin dL_law_1163 ?_
        refine z_callV A hd0 hZ (ci := 4) (nA := 2) (As := [.int (xs (x3 + (1 : Int32)).toNatClampNeg), .int (xs (x3 + (2 : Int32)).toNatClampNeg)]) (by decide) (isO_c (a := 0) hZ.k0 (by decide) rfl) (c_X4_bits l G base M 0 (xs (x3 + (1 : Int32)).toNatClampNeg) (xs (x3 + (2 : Int32)).toNatClampNeg) _ h) k_ml_RL_123 k_im_yX4_bits k_se_yX4_bits k_in_RX4 k_co_yX4_bits (by decide +kernel) ⟨by decide, by decide⟩ rfl rfl (Nat.le_of_ble_eq_true rfl) hl dL_law_1164 (fun v M223 H locs d0 cells slots hq hd0 hZ hm => ?_)
        clear h
        obtain ⟨j224, rfl, h⟩ := hq
        refine lv_aload_n hx hb dL_law_1167 rfl (lv_at hl 2 rfl) ?_
        refine lv_aload_n hx hb dL_law_1168 rfl (lv_at hl 0 rfl) ?_
        refine lv_iload_n hx hb dL_law_1169 rfl (lv_at hl 3 rfl) ?_
        refine lv_iconst (v := (1 : Int32)) hx hb dL_law_1170 (by decide) ?_
        refine lv_iadd hx hb dL_law_1171 ?_
        obtain ⟨hin, h⟩ := h
        refine z_sld hx hb hX hbl hZ hin dL_law_1172 ?_
        refine lv_aload_n hx hb dL_law_1173 rfl (lv_at hl 0 rfl) ?_
        refine lv_iload_n hx hb dL_law_1174 rfl (lv_at hl 3 rfl) ?_
        refine lv_iconst (v := (2 : Int32)) hx hb dL_law_1175 (by decide) ?_
        refine lv_iadd hx hb dL_law_1176 ?_
        obtain ⟨hin, h⟩ := h
        refine z_sld hx hb hX hbl hZ hin dL_law_1177 ?_
        refine z_callV A hd0 hZ (ci := 5) (nA := 2) (As := [.int (xs (x3 + (1 : Int32)).toNatClampNeg), .int (xs (x3 + (2 : Int32)).toNatClampNeg)]) (by decide) (isO_c (a := 69) hZ.k0 (by decide) rfl) (c_X5_bits l G base M223 69 (xs (x3 + (1 : Int32)).toNatClampNeg) (xs (x3 + (2 : Int32)).toNatClampNeg) _ h) k_ml_RL_127 k_im_yX5_bits k_se_yX5_bits k_in_RX5 k_co_yX5_bits (by decide +kernel) ⟨by decide, by decide⟩ rfl rfl (Nat.le_of_ble_eq_true rfl) hl dL_law_1178 (fun v M225 H locs d0 cells slots hq hd0 hZ hm => ?_)
        clear h
        obtain ⟨j226, rfl, h⟩ := hq
        refine z_lc_eq (tgt := 1359) hx hb dL_law_1181 dL_law_1182 (by decide) (fun hc => ?_) (fun hc => ?_)
        · replace h := h.1 hc
          exact (zb_L_law_1359 A hr hlocks hX hbl hbase hd0 hZ (lv_sub hl [0, 1, 2, 3] rfl) h (fun hd0 hZ hl h => ih hd0 hZ hl h))
        · replace h := h.2 hc
          refine lv_iconst (v := (0 : Int32)) hx hb dL_law_1185 (by decide) ?_
          exact h.elim
      by_cases hc25 : (xs x3.toNatClampNeg) &&& (31 : Int32) = 25
      · refine lv_tableIn (off := 1154) (tgt := 1187) hx hb dL_law_33 (by rw [hc25]; decide) (by rw [hc25]; decide) (by rw [hc25]; rfl) (by decide) ?_
        replace h := h.2.2.2.2.2.2.2.2.2.2.2.2.2.2.2.2.2.2.2.2.2.2.2.2.2.1 hc25
        refine lv_aload_n hx hb dL_law_1187 rfl (lv_at hl 1 rfl) ?_
        refine lv_aload_n hx hb dL_law_1188 rfl (lv_at hl 0 rfl) ?_
        refine lv_iload_n hx hb dL_law_1189 rfl (lv_at hl 3 rfl) ?_
        refine lv_iconst (v := (1 : Int32)) hx hb dL_law_1190 (by decide) ?_
        refine lv_iadd hx hb dL_law_1191 ?_
        obtain ⟨hin, h⟩ := h
        refine z_sld hx hb hX hbl hZ hin dL_law_1192 ?_
        refine lv_aload_n hx hb dL_law_1193 rfl (lv_at hl 0 rfl) ?_
        refine lv_iload_n hx hb dL_law_1194 rfl (lv_at hl 3 rfl) ?_
        refine lv_iconst (v := (2 : Int32)) hx hb dL_law_1195 (by decide) ?_
        refine lv_iadd hx hb dL_law_1196 ?_
        obtain ⟨hin, h⟩ := h
        refine z_sld hx hb hX hbl hZ hin dL_law_1197 ?_
        refine lv_aload_n hx hb dL_law_1198 rfl (lv_at hl 0 rfl) ?_
        refine lv_iload_n hx hb dL_law_1199 rfl (lv_at hl 3 rfl) ?_
        refine lv_iconst (v := (3 : Int32)) hx hb dL_law_1200 (by decide) ?_
        refine lv_iadd hx hb dL_law_1201 ?_
        obtain ⟨hin, h⟩ := h
        refine z_sld hx hb hX hbl hZ hin dL_law_1202 ?_
        refine lv_if_eq (tgt := 1210) hx hb dL_law_1203 (by decide) (fun hc => ?_) (fun hc => ?_)
        · replace h := h.1 hc
          refine lv_iconst (v := (0 : Int32)) hx hb dL_law_1210 (by decide) ?_
          exact (zb_L_law_1211 A hr hlocks hX hbl hbase (isO_c (a := 0) hZ.k0 (by decide) rfl) hd0 hZ (lv_sub hl [0, 1, 2, 3] rfl) h (fun hd0 hZ hl h => ih hd0 hZ hl h))
        · replace h := h.2 hc
          refine lv_iconst (v := (1 : Int32)) hx hb dL_law_1206 (by decide) ?_
          refine lv_goto (tgt := 1211) hx hb dL_law_1207 (by decide) ?_
          exact (zb_L_law_1211 A hr hlocks hX hbl hbase (isO_c (a := 0) hZ.k0 (by decide) rfl) hd0 hZ (lv_sub hl [0, 1, 2, 3] rfl) h (fun hd0 hZ hl h => ih hd0 hZ hl h))
      by_cases hc26 : (xs x3.toNatClampNeg) &&& (31 : Int32) = 26
      · refine lv_tableIn (off := 1214) (tgt := 1247) hx hb dL_law_33 (by rw [hc26]; decide) (by rw [hc26]; decide) (by rw [hc26]; rfl) (by decide) ?_
        replace h := h.2.2.2.2.2.2.2.2.2.2.2.2.2.2.2.2.2.2.2.2.2.2.2.2.2.2.1 hc26
        refine lv_aload_n hx hb dL_law_1247 rfl (lv_at hl 1 rfl) ?_
        refine z_callV A hd0 hZ (ci := 4) (nA := 0) (As := []) (by decide) (isO_c (a := 0) hZ.k0 (by decide) rfl) (c_X4_looks l G base M 0 _ h) k_ml_RL_133 k_im_yX4_looks k_se_yX4_looks k_in_RX4 k_co_yX4_looks (by decide +kernel) ⟨by decide, by decide⟩ rfl rfl (Nat.le_of_ble_eq_true rfl) hl dL_law_1248 (fun v M227 H locs d0 cells slots hq hd0 hZ hm => ?_)
        clear h
        obtain ⟨i228, rfl, h⟩ := hq
        refine lv_aload_n hx hb dL_law_1251 rfl (lv_at hl 2 rfl) ?_
        refine z_callV A hd0 hZ (ci := 5) (nA := 0) (As := []) (by decide) (isO_c (a := 69) hZ.k0 (by decide) rfl) (c_X5_looks l G base M227 69 _ h) k_ml_RL_136 k_im_yX5_looks k_se_yX5_looks k_in_RX5 k_co_yX5_looks (by decide +kernel) ⟨by decide, by decide⟩ rfl rfl (Nat.le_of_ble_eq_true rfl) hl dL_law_1252 (fun v M229 H locs d0 cells slots hq hd0 hZ hm => ?_)
        clear h
        obtain ⟨i230, rfl, h⟩ := hq
        refine lv_icmp_eq (tgt := 1359) hx hb dL_law_1255 (by decide) (fun hc => ?_) (fun hc => ?_)
        · replace h := h.1 hc
          exact (zb_L_law_1359 A hr hlocks hX hbl hbase hd0 hZ (lv_sub hl [0, 1, 2, 3] rfl) h (fun hd0 hZ hl h => ih hd0 hZ hl h))
        · replace h := h.2 hc
          refine lv_iconst (v := (0 : Int32)) hx hb dL_law_1258 (by decide) ?_
          exact h.elim
      by_cases hc27 : (xs x3.toNatClampNeg) &&& (31 : Int32) = 27
      · refine lv_tableIn (off := 1227) (tgt := 1260) hx hb dL_law_33 (by rw [hc27]; decide) (by rw [hc27]; decide) (by rw [hc27]; rfl) (by decide) ?_
        replace h := h.2.2.2.2.2.2.2.2.2.2.2.2.2.2.2.2.2.2.2.2.2.2.2.2.2.2.2.1 hc27
        refine lv_aload_n hx hb dL_law_1260 rfl (lv_at hl 1 rfl) ?_
        refine lv_aload_n hx hb dL_law_1261 rfl (lv_at hl 0 rfl) ?_
        refine lv_iload_n hx hb dL_law_1262 rfl (lv_at hl 3 rfl) ?_
        refine lv_iconst (v := (1 : Int32)) hx hb dL_law_1263 (by decide) ?_
        refine lv_iadd hx hb dL_law_1264 ?_
        obtain ⟨hin, h⟩ := h
        refine z_sld hx hb hX hbl hZ hin dL_law_1265 ?_
        refine z_callV A hd0 hZ (ci := 4) (nA := 1) (As := [.int (xs (x3 + (1 : Int32)).toNatClampNeg)]) (by decide) (isO_c (a := 0) hZ.k0 (by decide) rfl) (c_X4_told l G base M 0 (xs (x3 + (1 : Int32)).toNatClampNeg) _ h) k_ml_RL_137 k_im_yX4_told k_se_yX4_told k_in_RX4 k_co_yX4_told (by decide +kernel) ⟨by decide, by decide⟩ rfl rfl (Nat.le_of_ble_eq_true rfl) hl dL_law_1266 (fun v M231 H locs d0 cells slots hq hd0 hZ hm => ?_)
        clear h
        obtain ⟨i232, rfl, h⟩ := hq
        refine lv_aload_n hx hb dL_law_1269 rfl (lv_at hl 2 rfl) ?_
        refine lv_aload_n hx hb dL_law_1270 rfl (lv_at hl 0 rfl) ?_
        refine lv_iload_n hx hb dL_law_1271 rfl (lv_at hl 3 rfl) ?_
        refine lv_iconst (v := (1 : Int32)) hx hb dL_law_1272 (by decide) ?_
        refine lv_iadd hx hb dL_law_1273 ?_
        obtain ⟨hin, h⟩ := h
        refine z_sld hx hb hX hbl hZ hin dL_law_1274 ?_
        refine z_callV A hd0 hZ (ci := 5) (nA := 1) (As := [.int (xs (x3 + (1 : Int32)).toNatClampNeg)]) (by decide) (isO_c (a := 69) hZ.k0 (by decide) rfl) (c_X5_told l G base M231 69 (xs (x3 + (1 : Int32)).toNatClampNeg) _ h) k_ml_RL_140 k_im_yX5_told k_se_yX5_told k_in_RX5 k_co_yX5_told (by decide +kernel) ⟨by decide, by decide⟩ rfl rfl (Nat.le_of_ble_eq_true rfl) hl dL_law_1275 (fun v M233 H locs d0 cells slots hq hd0 hZ hm => ?_)
        clear h
        obtain ⟨i234, rfl, h⟩ := hq
        refine lv_icmp_eq (tgt := 1359) hx hb dL_law_1278 (by decide) (fun hc => ?_) (fun hc => ?_)
        · replace h := h.1 hc
          exact (zb_L_law_1359 A hr hlocks hX hbl hbase hd0 hZ (lv_sub hl [0, 1, 2, 3] rfl) h (fun hd0 hZ hl h => ih hd0 hZ hl h))
        · replace h := h.2 hc
          refine lv_iconst (v := (0 : Int32)) hx hb dL_law_1281 (by decide) ?_
          exact h.elim
      by_cases hc28 : (xs x3.toNatClampNeg) &&& (31 : Int32) = 28
      · refine lv_tableIn (off := 1250) (tgt := 1283) hx hb dL_law_33 (by rw [hc28]; decide) (by rw [hc28]; decide) (by rw [hc28]; rfl) (by decide) ?_
        replace h := h.2.2.2.2.2.2.2.2.2.2.2.2.2.2.2.2.2.2.2.2.2.2.2.2.2.2.2.2.1 hc28
        refine lv_aload_n hx hb dL_law_1283 rfl (lv_at hl 1 rfl) ?_
        refine lv_aload_n hx hb dL_law_1284 rfl (lv_at hl 0 rfl) ?_
        refine lv_iload_n hx hb dL_law_1285 rfl (lv_at hl 3 rfl) ?_
        refine lv_iconst (v := (1 : Int32)) hx hb dL_law_1286 (by decide) ?_
        refine lv_iadd hx hb dL_law_1287 ?_
        obtain ⟨hin, h⟩ := h
        refine z_sld hx hb hX hbl hZ hin dL_law_1288 ?_
        refine lv_i2l hx hb dL_law_1289 rfl ?_
        refine lv_bipush (v := (32 : Int32)) hx hb dL_law_1290 (by decide) ?_
        refine lv_lshl hx hb dL_law_1292 rfl ?_
        refine lv_aload_n hx hb dL_law_1293 rfl (lv_at hl 0 rfl) ?_
        refine lv_iload_n hx hb dL_law_1294 rfl (lv_at hl 3 rfl) ?_
        refine lv_iconst (v := (2 : Int32)) hx hb dL_law_1295 (by decide) ?_
        refine lv_iadd hx hb dL_law_1296 ?_
        obtain ⟨hin, h⟩ := h
        refine z_sld hx hb hX hbl hZ hin dL_law_1297 ?_
        refine lv_i2l hx hb dL_law_1298 rfl ?_
        refine lv_ldc2 (v := (4294967295 : Int64)) hx hb (A d0).2.2.2.1 ((A d0).2.2.2.2.1 _ k_lc_RL_13) dL_law_1299 ?_
        refine lv_land hx hb dL_law_1302 ?_
        refine lv_lor hx hb dL_law_1303 ?_
        refine z_callV A hd0 hZ (ci := 4) (nA := 1) (As := [.long ((((xs (x3 + (1 : Int32)).toNatClampNeg).toInt64) <<< ((32 : Int32).toInt64 &&& 63)) ||| (((xs (x3 + (2 : Int32)).toNatClampNeg).toInt64) &&& (4294967295 : Int64)))]) (by decide) (isO_c (a := 0) hZ.k0 (by decide) rfl) (c_X4_check l G base M 0 ((((xs (x3 + (1 : Int32)).toNatClampNeg).toInt64) <<< ((32 : Int32).toInt64 &&& 63)) ||| (((xs (x3 + (2 : Int32)).toNatClampNeg).toInt64) &&& (4294967295 : Int64))) _ h) k_ml_RL_141 k_im_yX4_check k_se_yX4_check k_in_RX4 k_co_yX4_check (by decide +kernel) ⟨by decide, by decide⟩ rfl rfl (Nat.le_of_ble_eq_true rfl) hl dL_law_1304 (fun v M235 H locs d0 cells slots hq hd0 hZ hm => ?_)
        clear h
        obtain ⟨i236, rfl, h⟩ := hq
        refine lv_aload_n hx hb dL_law_1307 rfl (lv_at hl 2 rfl) ?_
        refine lv_aload_n hx hb dL_law_1308 rfl (lv_at hl 0 rfl) ?_
        refine lv_iload_n hx hb dL_law_1309 rfl (lv_at hl 3 rfl) ?_
        refine lv_iconst (v := (1 : Int32)) hx hb dL_law_1310 (by decide) ?_
        refine lv_iadd hx hb dL_law_1311 ?_
        obtain ⟨hin, h⟩ := h
        refine z_sld hx hb hX hbl hZ hin dL_law_1312 ?_
        refine lv_i2l hx hb dL_law_1313 rfl ?_
        refine lv_bipush (v := (32 : Int32)) hx hb dL_law_1314 (by decide) ?_
        refine lv_lshl hx hb dL_law_1316 rfl ?_
        refine lv_aload_n hx hb dL_law_1317 rfl (lv_at hl 0 rfl) ?_
        refine lv_iload_n hx hb dL_law_1318 rfl (lv_at hl 3 rfl) ?_
        refine lv_iconst (v := (2 : Int32)) hx hb dL_law_1319 (by decide) ?_
        refine lv_iadd hx hb dL_law_1320 ?_
        obtain ⟨hin, h⟩ := h
        refine z_sld hx hb hX hbl hZ hin dL_law_1321 ?_
        refine lv_i2l hx hb dL_law_1322 rfl ?_
        refine lv_ldc2 (v := (4294967295 : Int64)) hx hb (A d0).2.2.2.1 ((A d0).2.2.2.2.1 _ k_lc_RL_13) dL_law_1323 ?_
        refine lv_land hx hb dL_law_1326 ?_
        refine lv_lor hx hb dL_law_1327 ?_
        refine z_callV A hd0 hZ (ci := 5) (nA := 1) (As := [.long ((((xs (x3 + (1 : Int32)).toNatClampNeg).toInt64) <<< ((32 : Int32).toInt64 &&& 63)) ||| (((xs (x3 + (2 : Int32)).toNatClampNeg).toInt64) &&& (4294967295 : Int64)))]) (by decide) (isO_c (a := 69) hZ.k0 (by decide) rfl) (c_X5_check l G base M235 69 ((((xs (x3 + (1 : Int32)).toNatClampNeg).toInt64) <<< ((32 : Int32).toInt64 &&& 63)) ||| (((xs (x3 + (2 : Int32)).toNatClampNeg).toInt64) &&& (4294967295 : Int64))) _ h) k_ml_RL_144 k_im_yX5_check k_se_yX5_check k_in_RX5 k_co_yX5_check (by decide +kernel) ⟨by decide, by decide⟩ rfl rfl (Nat.le_of_ble_eq_true rfl) hl dL_law_1328 (fun v M237 H locs d0 cells slots hq hd0 hZ hm => ?_)
        clear h
        obtain ⟨i238, rfl, h⟩ := hq
        refine lv_icmp_eq (tgt := 1359) hx hb dL_law_1331 (by decide) (fun hc => ?_) (fun hc => ?_)
        · replace h := h.1 hc
          exact (zb_L_law_1359 A hr hlocks hX hbl hbase hd0 hZ (lv_sub hl [0, 1, 2, 3] rfl) h (fun hd0 hZ hl h => ih hd0 hZ hl h))
        · replace h := h.2 hc
          refine lv_iconst (v := (0 : Int32)) hx hb dL_law_1334 (by decide) ?_
          exact h.elim
      by_cases hc29 : (xs x3.toNatClampNeg) &&& (31 : Int32) = 29
      · refine lv_tableIn (off := 1303) (tgt := 1336) hx hb dL_law_33 (by rw [hc29]; decide) (by rw [hc29]; decide) (by rw [hc29]; rfl) (by decide) ?_
        replace h := h.2.2.2.2.2.2.2.2.2.2.2.2.2.2.2.2.2.2.2.2.2.2.2.2.2.2.2.2.2.1 hc29
        refine lv_aload_n hx hb dL_law_1336 rfl (lv_at hl 1 rfl) ?_
        refine lv_aload_n hx hb dL_law_1337 rfl (lv_at hl 0 rfl) ?_
        refine lv_iload_n hx hb dL_law_1338 rfl (lv_at hl 3 rfl) ?_
        refine lv_iconst (v := (1 : Int32)) hx hb dL_law_1339 (by decide) ?_
        refine lv_iadd hx hb dL_law_1340 ?_
        obtain ⟨hin, h⟩ := h
        refine z_sld hx hb hX hbl hZ hin dL_law_1341 ?_
        refine z_callV A hd0 hZ (ci := 4) (nA := 1) (As := [.int (xs (x3 + (1 : Int32)).toNatClampNeg)]) (by decide) (isO_c (a := 0) hZ.k0 (by decide) rfl) (c_X4_count l G base M 0 (xs (x3 + (1 : Int32)).toNatClampNeg) _ h) k_ml_RL_145 k_im_yX4_count k_se_yX4_count k_in_RX4 k_co_yX4_count (by decide +kernel) ⟨by decide, by decide⟩ rfl rfl (Nat.le_of_ble_eq_true rfl) hl dL_law_1342 (fun v M239 H locs d0 cells slots hq hd0 hZ hm => ?_)
        clear h
        obtain ⟨i240, rfl, h⟩ := hq
        refine lv_aload_n hx hb dL_law_1345 rfl (lv_at hl 2 rfl) ?_
        refine lv_aload_n hx hb dL_law_1346 rfl (lv_at hl 0 rfl) ?_
        refine lv_iload_n hx hb dL_law_1347 rfl (lv_at hl 3 rfl) ?_
        refine lv_iconst (v := (1 : Int32)) hx hb dL_law_1348 (by decide) ?_
        refine lv_iadd hx hb dL_law_1349 ?_
        obtain ⟨hin, h⟩ := h
        refine z_sld hx hb hX hbl hZ hin dL_law_1350 ?_
        refine z_callV A hd0 hZ (ci := 5) (nA := 1) (As := [.int (xs (x3 + (1 : Int32)).toNatClampNeg)]) (by decide) (isO_c (a := 69) hZ.k0 (by decide) rfl) (c_X5_count l G base M239 69 (xs (x3 + (1 : Int32)).toNatClampNeg) _ h) k_ml_RL_148 k_im_yX5_count k_se_yX5_count k_in_RX5 k_co_yX5_count (by decide +kernel) ⟨by decide, by decide⟩ rfl rfl (Nat.le_of_ble_eq_true rfl) hl dL_law_1351 (fun v M241 H locs d0 cells slots hq hd0 hZ hm => ?_)
        clear h
        obtain ⟨i242, rfl, h⟩ := hq
        refine lv_icmp_eq (tgt := 1359) hx hb dL_law_1354 (by decide) (fun hc => ?_) (fun hc => ?_)
        · replace h := h.1 hc
          exact (zb_L_law_1359 A hr hlocks hX hbl hbase hd0 hZ (lv_sub hl [0, 1, 2, 3] rfl) h (fun hd0 hZ hl h => ih hd0 hZ hl h))
        · replace h := h.2 hc
          refine lv_iconst (v := (0 : Int32)) hx hb dL_law_1357 (by decide) ?_
          exact h.elim
      have hn0 := lv_neT hc0 (show (0 : Int32).toInt = 0 from rfl)
      have hn1 := lv_neT hc1 (show (1 : Int32).toInt = 1 from rfl)
      have hn2 := lv_neT hc2 (show (2 : Int32).toInt = 2 from rfl)
      have hn3 := lv_neT hc3 (show (3 : Int32).toInt = 3 from rfl)
      have hn4 := lv_neT hc4 (show (4 : Int32).toInt = 4 from rfl)
      have hn5 := lv_neT hc5 (show (5 : Int32).toInt = 5 from rfl)
      have hn6 := lv_neT hc6 (show (6 : Int32).toInt = 6 from rfl)
      have hn7 := lv_neT hc7 (show (7 : Int32).toInt = 7 from rfl)
      have hn8 := lv_neT hc8 (show (8 : Int32).toInt = 8 from rfl)
      have hn9 := lv_neT hc9 (show (9 : Int32).toInt = 9 from rfl)
      have hn10 := lv_neT hc10 (show (10 : Int32).toInt = 10 from rfl)
      have hn11 := lv_neT hc11 (show (11 : Int32).toInt = 11 from rfl)
      have hn12 := lv_neT hc12 (show (12 : Int32).toInt = 12 from rfl)
      have hn13 := lv_neT hc13 (show (13 : Int32).toInt = 13 from rfl)
      have hn14 := lv_neT hc14 (show (14 : Int32).toInt = 14 from rfl)
      have hn15 := lv_neT hc15 (show (15 : Int32).toInt = 15 from rfl)
      have hn16 := lv_neT hc16 (show (16 : Int32).toInt = 16 from rfl)
      have hn17 := lv_neT hc17 (show (17 : Int32).toInt = 17 from rfl)
      have hn18 := lv_neT hc18 (show (18 : Int32).toInt = 18 from rfl)
      have hn19 := lv_neT hc19 (show (19 : Int32).toInt = 19 from rfl)
      have hn20 := lv_neT hc20 (show (20 : Int32).toInt = 20 from rfl)
      have hn21 := lv_neT hc21 (show (21 : Int32).toInt = 21 from rfl)
      have hn22 := lv_neT hc22 (show (22 : Int32).toInt = 22 from rfl)
      have hn23 := lv_neT hc23 (show (23 : Int32).toInt = 23 from rfl)
      have hn24 := lv_neT hc24 (show (24 : Int32).toInt = 24 from rfl)
      have hn25 := lv_neT hc25 (show (25 : Int32).toInt = 25 from rfl)
      have hn26 := lv_neT hc26 (show (26 : Int32).toInt = 26 from rfl)
      have hn27 := lv_neT hc27 (show (27 : Int32).toInt = 27 from rfl)
      have hn28 := lv_neT hc28 (show (28 : Int32).toInt = 28 from rfl)
      have hn29 := lv_neT hc29 (show (29 : Int32).toInt = 29 from rfl)
      refine lv_tableOut (tgt := 1359) hx hb dL_law_33 (by omega) (by decide) ?_
      replace h := h.2.2.2.2.2.2.2.2.2.2.2.2.2.2.2.2.2.2.2.2.2.2.2.2.2.2.2.2.2.2 hc0 hc1 hc2 hc3 hc4 hc5 hc6 hc7 hc8 hc9 hc10 hc11 hc12 hc13 hc14 hc15 hc16 hc17 hc18 hc19 hc20 hc21 hc22 hc23 hc24 hc25 hc26 hc27 hc28 hc29
      exact (zb_L_law_1359 A hr hlocks hX hbl hbase hd0 hZ (lv_sub hl [0, 1, 2, 3] rfl) h (fun hd0 hZ hl h => ih hd0 hZ hl h))
