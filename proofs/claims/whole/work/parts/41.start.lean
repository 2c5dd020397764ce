/-! ===== the law from its entry, given the pure statement ===== -/
def M00 : Mem := ((fun _ _ => 0), (fun _ _ => 0), (fun _ _ => 0), (fun _ _ => none), 0)
/-- WHAT IS LEFT, over the pure memory alone: the two constructors, then the law's loop -/
def wp_start (xs : Nat → Int32) (L : Nat) : Prop :=
  wp_X4_init 0 (nw M00) (fun M2 => mz M2 < ZMAX ∧ shp (mz M2) = .inr 5 ∧ wp_X5_init (mz M2) (nw M2) (fun M4 => mz M2 = 69 ∧ K0 ≤ mz M4 ∧ (∀ k j a, k < mz M4 → zfin k j = some a → mR M4 k j = some a) ∧ ∃ n, wp_L_law_18 n 0 M4 xs L))
theorem Rep.final {G : ZG} {base : Nat} {M : Mem} {H : Heap} (h : Rep G false base M H) (hk : K0 ≤ mz M) (hf : ∀ k j a, k < mz M → zfin k j = some a → mR M k j = some a) : Rep G true base M H := by
  refine ⟨h.1, h.2.1, fun k hk2 => ?_, fun _ => hk⟩
  have hz : ∀ j t, zval true base M k j t = zval false base M k j t := by
    intro j t
    have hr : zref true M k j = zref false M k j := by
      unfold zref
      cases hz : zfin k j with
      | none => rfl
      | some a => exact (hf k j a hk2 hz).symm
    unfold zval; cases t <;> simp [hr]
  have h2 := h.2.2.1 k hk2
  unfold zOK at h2 ⊢
  cases hs : shp k with
  | inl q => simp only [hs] at h2 ⊢; rw [h2]; simp only [hz]
  | inr ci =>
    simp only [hs] at h2 ⊢
    obtain ⟨cell, a, b, c, d, e⟩ := h2
    exact ⟨cell, a, b, c, d, fun j hj => by rw [hz]; exact e j hj⟩
theorem nest_of {w : Cond} (hw : nestW w = true) {A : Array Value} {s : State} (h : w.before A s = true) : va_Nw w s := by
  unfold nestW at hw
  split at hw
  · exact va_Nw.of rfl h
  · exact va_Nw.of rfl h
  · exact h
  · cases hw
theorem zc_is : ∀ ci, ci < 6 → Cond.instantiable (RF ci) (nF ci) ∈ W0
  | 0, _ => k_is_RX0 | 1, _ => k_is_RX1 | 2, _ => k_is_RX2 | 3, _ => k_is_RX3 | 4, _ => k_is_RX4 | 5, _ => k_is_RX5
  | ci + 6, h => absurd h (by omega)
theorem arr_num {s : State} {args : Array Value} {t : FieldType} (h : (Cond.arrayClass t).before args s = true) (ht : t = .int ∨ t = .long ∨ t = .boolean) : ∃ cA : ClassId, ArrOfT s cA t ∧ va_RA s cA t := by
  obtain ⟨c, k, comp, f1, f2, f3⟩ := Cond.arrayClass_spec h
  exact ⟨c, fun n z => ⟨(fun k h => by cases h), k, f2, comp, f3⟩, by rcases ht with rfl | rfl | rfl <;> exact f1⟩
theorem arr_obj {s : State} {C : String} (h : va_Nw (.arrayOver (.object C)) s) : ∃ cA : ClassId, ArrOfT s cA (.object C) ∧ va_RA s cA (.object C) := by
  obtain ⟨comp, c, k, g1, -, g3, g4, g5⟩ := Cond.arrayOver_spec h
  exact ⟨c, fun n z => ⟨(fun k h => by cases h), k, g3, comp, g4⟩, k, comp, g3, g4, g1, g5⟩
theorem zG_of {s : State} {args : Array Value} (hts : ∀ w ∈ W0, w.before args s = true) (hnw : ∀ w ∈ NWl, va_Nw w s) : ∃ G : ZG, KK G s := by
  have kc : ∀ ci, ci < 6 → ∃ q : ClassId × (Nat → Nat), u_Kn s (RF ci) (TF ci) (nF ci) q.1 q.2 := fun ci hci => by
    obtain ⟨cC, iS, h⟩ := u_known hts (zc_in ci hci) (hts _ (zc_is ci hci))
    exact ⟨(cC, iS), h⟩
  obtain ⟨q0, h0⟩ := kc 0 (by decide)
  obtain ⟨q1, h1⟩ := kc 1 (by decide)
  obtain ⟨q2, h2⟩ := kc 2 (by decide)
  obtain ⟨q3, h3⟩ := kc 3 (by decide)
  obtain ⟨q4, h4⟩ := kc 4 (by decide)
  obtain ⟨q5, h5⟩ := kc 5 (by decide)
  obtain ⟨a0, r0⟩ := arr_num (hts _ k_ac_int) (Or.inl rfl)
  obtain ⟨a1, r1⟩ := arr_num (hts _ k_ac_long) (Or.inr (Or.inl rfl))
  obtain ⟨a2, r2⟩ := arr_num (hts _ k_ac_boolean) (Or.inr (Or.inr rfl))
  obtain ⟨a3, r3⟩ := arr_obj (hnw _ k_ao_RX0)
  obtain ⟨a4, r4⟩ := arr_obj (hnw _ k_ao_RX2)
  let f : Nat → ClassId × (Nat → Nat) := fun ci => match ci with | 0 => q0 | 1 => q1 | 2 => q2 | 3 => q3 | 4 => q4 | _ => q5
  let g : FieldType → ClassId := fun t => match t with | .int => a0 | .long => a1 | .boolean => a2 | .object n => if n = "LeaningIndex$Piece" then a3 else a4 | _ => a0
  refine ⟨(fun ci => (f ci).1, fun ci => (f ci).2, g), fun ci q hq => ?_, fun k q hq => ?_⟩
  · match ci, hq with
    | 0, hq => cases hq; exact h0
    | 1, hq => cases hq; exact h1
    | 2, hq => cases hq; exact h2
    | 3, hq => cases hq; exact h3
    | 4, hq => cases hq; exact h4
    | 5, hq => cases hq; exact h5
    | ci + 6, hq => simp [vwCl] at hq
  · match k, hq with
    | 0, hq => cases hq; exact r0
    | 1, hq => cases hq; exact r1
    | 2, hq => cases hq; exact r2
    | 3, hq => cases hq; have e : g (.object "LeaningIndex$Piece") = a3 := if_pos rfl
               show ArrOfT s (g (.object "LeaningIndex$Piece")) _ ∧ va_RA s (g (.object "LeaningIndex$Piece")) _
               rw [e]; exact r3
    | 4, hq => cases hq; have e : g (.object "LeaningIndex$Tier") = a4 := if_neg (by decide)
               show ArrOfT s (g (.object "LeaningIndex$Tier")) _ ∧ va_RA s (g (.object "LeaningIndex$Tier")) _
               rw [e]; exact r4
    | k + 5, hq => simp [zTys] at hq
set_option maxHeartbeats 4000000 in
set_option maxRecDepth 100000 in
theorem whole_of (hst : ∀ (xs : Nat → Int32) (L : Nat), L ≤ 3072 → wp_start xs L) {p : Program} {e : Env} {s : State} {m : MethodId} {below : List Frame} {meth : Method} {c : Code} (l : Launch) {b L : Nat} {xs : Nat → Int32} (hL : L ≤ 3072) (C0 : lw_At p s m meth c b L xs) : W p l e room_1 s m #[Value.ref b] below meth c s.heap [] 0 0 (lw_Z below #[Value.ref b] s) (entryFrame m ([Value.ref b] : List Value).toArray 4) := by
  obtain ⟨hx, hb, hr, hml, hown, hts0, hX, hbl, hlocks, hgv⟩ := C0
  have hts : ∀ w ∈ W0, w.before #[Value.ref b] s = true := fun w hw => hts0 w (List.mem_filter.mp hw).1
  have hnw : ∀ w ∈ NWl, va_Nw w s := fun w hw => nest_of (List.all_eq_true.mp NWl_nest w hw) (hts0 w (NWl_in w hw))
  obtain ⟨G, hK⟩ := zG_of hts hnw
  obtain ⟨base, hbase⟩ : ∃ z, z = s.heap.size := ⟨_, rfl⟩
  rw [← hbase] at hbl
  have hSS := SS_max
  have A0 : Amb p room_1 s m #[Value.ref b] meth c G base 0 cL_law RL 4 9 388 := ⟨hx, hb, hml, hown, hts, hnw, hK, hlocks, hbase.symm, by show 6000 ≤ 600000 + 0; omega, by show SS ZMAX ≤ 7302250 + SS 0; omega, Nat.le_refl _, Nat.le_refl _⟩
  have A := A0.dr
  obtain ⟨d0, e0⟩ : ∃ d, d = s.drawn := ⟨_, rfl⟩
  have hd0 : s.drawn.sameBut d0 lw_cs := by rw [e0]; exact Drawn.sameBut.refl s.drawn lw_cs
  refine W.base ?_
  rw [← e0]
  clear e0
  have hZ : ZH G false base s.heap M00 s.heap [] := ⟨⟨hbase.symm, by decide, fun k hk => absurd hk (Nat.not_lt_zero _), fun q => by cases q⟩, fun _ _ => rfl, fun _ h => absurd h List.not_mem_nil, Nat.le_refl _⟩
  have hl := lv_entry ([.ref b]) (n := 4) (Nat.le_of_ble_eq_true rfl)
  rw [lg_entry_eq]
  generalize (lg_sl ([.ref b]) ++ List.replicate (4 - (lg_sl ([.ref b])).length) Slot.unset).toArray = ls at hl ⊢
  have hl : lv_has ls 4 [(0, .ref b)] := hl
  have h := hst xs L hL
  unfold wp_start at h
  refine z_new (A d0) hZ (a := 0) rfl (ci := 4) (by decide) rfl (by decide) k_cl_RL_7 k_is_RX4 k_in_RX4 (fun _ q => by cases q) (nofl _ (by decide)) dL_law_0 (fun H cells slots hZ => ?_)
  refine lv_dup hx hb dL_law_3 rfl ?_
  refine z_callI A hd0 hZ (nA := 0) (As := []) (c_X4_init l G base (nw M00) 0 _ h) rfl k_ml_RL_9 k_im_yX4_init k_in_RX4 k_co_yX4_init (by decide +kernel) ⟨by decide, by decide⟩ rfl rfl (Nat.le_of_ble_eq_true rfl) hl dL_law_4 (fun v M2 H locs d0 cells slots hq hd0 hZ hm => ?_)
  clear h
  obtain ⟨rfl, hlt, hs, h⟩ := hq
  refine lv_astore_n (lv' := [(1, .ref (base + 0)), (0, .ref b)]) hx hb dL_law_7 rfl hl (by decide) rfl (fun ls hl2 => ?_)
  replace hl := hl2
  refine z_new (A d0) hZ (a := mz M2) rfl (ci := 5) (by decide) hs hlt k_cl_RL_10 k_is_RX5 k_in_RX5 (fun _ q => by cases q) (nofl _ (by decide)) dL_law_8 (fun H cells slots hZ => ?_)
  refine lv_dup hx hb dL_law_11 rfl ?_
  refine z_callI A hd0 hZ (nA := 0) (As := []) (c_X5_init l G base (nw M2) (mz M2) _ h) rfl k_ml_RL_12 k_im_yX5_init k_in_RX5 k_co_yX5_init (by decide +kernel) ⟨by decide, by decide⟩ rfl rfl (Nat.le_of_ble_eq_true rfl) hl dL_law_12 (fun v M4 H locs d0 cells slots hq hd0 hZ hm => ?_)
  clear h
  obtain ⟨rfl, h69, hk0, hfin, n, h⟩ := hq
  rw [h69]
  have hZ : ZH G true base s.heap M4 H locs := ⟨hZ.1.final hk0 hfin, hZ.2⟩
  refine lv_astore_n (lv' := [(2, .ref (base + 69)), (1, .ref (base + 0)), (0, .ref b)]) hx hb dL_law_15 rfl hl (by decide) rfl (fun ls hl2 => ?_)
  replace hl := hl2
  refine lv_iconst (v := (0 : Int32)) hx hb dL_law_16 (by decide) ?_
  refine lv_istore_n (lv' := [(3, .int 0), (2, .ref (base + 69)), (1, .ref (base + 0)), (0, .ref b)]) hx hb dL_law_17 rfl hl (by decide) rfl (fun ls hl2 => ?_)
  exact zb_L_law_18 A hr hlocks hX hbl hbase.symm n hd0 hZ (lv_sub hl2 [3, 2, 1, 0] rfl) h
