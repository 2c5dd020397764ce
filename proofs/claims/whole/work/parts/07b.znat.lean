/-! ===== the two natives ===== -/
section ZN
variable {p : Program} {l : Launch} {e : Env} {R : Room} {s : State} {m : MethodId} {args : Array Value} {below : List Frame} {meth : Method} {c : Code} {H : Heap} {locs : List Loc} {cells slots : Nat} {Q : State → Prop}
variable {H0 : Heap} {G : ZG} {ph : Bool} {base z0 nL fr lo : Nat} {cc : ByteArray} {own : String} {M : Mem} {pc : Nat} {ls : Array Slot} {rest st0 : List Value} {d0 : Drawn} {lv : List (Nat × Value)}
theorem z_d2l (A : Amb p R s m args meth c G base z0 cc own nL fr lo) {x : UInt64} {idx : Nat} (hl : lv_has ls nL lv) (hw : Cond.methodLink own idx ⟨"java/lang/Double", "doubleToRawLongBits", "(D)J"⟩ ∈ W0) (hdg : decode cc pc = .ok (.invokestatic idx, 3)) (hf : 1 ≤ fr) (hlo : (rest.map fun v => v.category).sum + 15 ≤ lo)
    (kk : W p l e R s m args below meth c H locs cells slots Q (F0 m (pc + 3) ls (.long x.toInt64 :: rest))) : W p l e R s m args below meth c H locs cells slots Q (F0 m pc ls (.double x :: rest)) := by
  obtain ⟨hx, hb, hml, hown, hts, -, -, -, -, -, -, hf1, hf2⟩ := A
  exact vn_d2l hx hb (hml.trans hl.1.symm) hown (hts _ hw) (hts _ k_na_rawbits) (hts _ k_st_rawbits) (hts _ k_in_RJxe99ae) (Nat.le_trans hf hf1) (Nat.le_trans hlo hf2) hdg kk
theorem z_copyl (A : Amb p R s m args meth c G base z0 cc own nL fr lo) (hZ : ZH G ph base H0 M H locs) {a b idx : Nat} {sp dp n : Int32} (hl : lv_has ls nL lv) (hw : Cond.methodLink own idx arraycopyName ∈ W0) (ha : isA M a .long) (hbA : isA M b .long) (h1 : ¬ sp < 0) (h2 : ¬ dp < 0) (h3 : ¬ n < 0) (h4 : sp.toNatClampNeg + n.toNatClampNeg ≤ alen a) (h5 : dp.toNatClampNeg + n.toNatClampNeg ≤ alen b)
    (hf : 1 ≤ fr) (hlo : (rest.map fun v => v.category).sum + (nativeFrameWords "java/lang/System" "arraycopy" 5 + 11) ≤ lo) (hdg : decode cc pc = .ok (.invokestatic idx, 3))
    (kk : ∀ (H' : Heap) (locs' : List Loc), ZH G ph base H0 (cpL M a sp.toNatClampNeg b dp.toNatClampNeg n.toNatClampNeg) H' locs' → W p l e R s m args below meth c H' locs' cells slots Q (F0 m (pc + 3) ls rest)) : W p l e R s m args below meth c H locs cells slots Q (F0 m pc ls (.int n :: .int dp :: .ref (base + b) :: .int sp :: .ref (base + a) :: rest)) := by
  obtain ⟨hx, hb, hml, hown, hts, -, hK, -, -, -, -, hf1, hf2⟩ := A
  have nn : ∀ z : Int32, ¬ z < 0 → z.toInt = (z.toNatClampNeg : Int) := by
    intro z hz
    have hz0 : (0 : Int) ≤ z.toInt := by
      have := Int32.not_lt.mp hz
      simpa using Int32.le_iff_toInt_le.mp this
    show z.toInt = ((z.toInt.toNat : Nat) : Int)
    omega
  have hc0 : H[base + a]? = some (arrV (G.2.2 .long) (alen a) (fun j => .long (mL M a j))) := (hZ.1.2.2.1 a ha.2).arr ha.shp
  have hc1 : H[base + b]? = some (arrV (G.2.2 .long) (alen b) (fun j => .long (mL M b j))) := (hZ.1.2.2.1 b hbA.2).arr hbA.shp
  intro T hT X
  obtain ⟨-, k0, hk0, cm0, hkk0⟩ := (hK.arr (t := .long) 1 rfl).1 (alen a) (fun j => .long (mL M a j))
  obtain ⟨-, k1, hk1, cm1, hkk1⟩ := (hK.arr (t := .long) 1 rfl).1 (alen b) (fun j => .long (mL M b j))
  obtain ⟨vm', X', step⟩ := X.arraycopy hx hown (hts _ hw) (hts _ k_na_arraycopy) (hts _ k_st_arraycopy) (hts _ k_in_RJ10) (src := base + a) (dst := base + b) (srcPos := sp) (destPos := dp) (n := n) (by rw [hT]; exact hc0) (by rw [hT]; exact hc1)
    (fun _ h => by cases h) (fun _ h => by cases h) (fun h => by cases h) (fun h => by cases h) hk0 hk1 hkk0 hkk1 (by simp [show refKind FieldType.long = false from rfl]) h1 h2 h3
    (by rw [nn sp h1, nn n h3, arrV_size]; omega)
    (by rw [nn dp h2, nn n h3, arrV_size]; omega)
    (fun vm₁ _ i hi => by
      have e : (arrV (G.2.2 .long) (alen a) (fun j => Value.long (mL M a j))).slots.getD (sp.toNatClampNeg + i) .null = .long (mL M a (sp.toNatClampNeg + i)) := by
        rw [Array.getD_eq_getD_getElem?, arrV_read _ _ (by omega)]
        rfl
      refine ⟨?_, ?_⟩
      · rw [e]
        rfl
      · rw [e]
        exact trivial)
    (g := F0 m pc ls (.int n :: .int dp :: .ref (base + b) :: .int sp :: .ref (base + a) :: rest)) rfl (hl.1.trans hml.symm) (rest := rest) rfl (by rw [hb]; exact hdg) (Nat.le_trans hf hf1) (by show 2 * 0 + _ + _ ≤ _; omega)
  have e1 : copied (arrV (G.2.2 .long) (alen a) (fun j => Value.long (mL M a j))) (arrV (G.2.2 .long) (alen b) (fun j => Value.long (mL M b j))) sp dp n = arrV (G.2.2 .long) (alen b) (fun j => Value.long (va_cpy (mL M a) (mL M b) sp.toNatClampNeg dp.toNatClampNeg n.toNatClampNeg j)) := va_copied (fun z => .long z) (G.2.2 .long) (G.2.2 .long) (mL M a) (mL M b) h4
  rw [e1] at X' step
  have hlt : base + b < H.size := (Array.getElem?_eq_some_iff.mp hc1).1
  generalize hC : arrV (G.2.2 .long) (alen b) (fun j => Value.long (va_cpy (mL M a) (mL M b) sp.toNatClampNeg dp.toNatClampNeg n.toNatClampNeg j)) = C at X' step
  have hheap : ((T.setVm vm').setCell (base + b) C).heap = H.setIfInBounds (base + b) C := by rw [← hT]; rfl
  have oq : ∀ q : Nat, q ≠ base + b → (H.setIfInBounds (base + b) C)[q]? = H[q]? := fun q hq => by simp [Array.getElem?_setIfInBounds, Ne.symm hq]
  have hsz : (H.setIfInBounds (base + b) C).size = H.size := by simp
  have hR : Rep G ph base (cpL M a sp.toNatClampNeg b dp.toNatClampNeg n.toNatClampNeg) (H.setIfInBounds (base + b) C) := by
    refine hZ.1.upd rfl (fun k j t hk => ?_) hsz oq (zOK.ofArr hbA.shp ?_)
    · unfold zval; cases t <;> simp [mL_cpL, mD_cpL, mI_cpL, hk, zref, mR_cpL]
    · rw [show (H.setIfInBounds (base + b) C)[base + b]? = some C by simp [Array.getElem?_setIfInBounds, hlt], ← hC]
      congr 2
      funext j
      show Value.long _ = Value.long _
      rw [mL_cpL]
      simp [va_cpy, mL]
  obtain ⟨t, a1, b1⟩ := kk _ _ ⟨hR, fun q hq => by rw [oq q (by omega)]; exact hZ.2.1 q hq, fun q hq => by
      rcases List.mem_append.mp hq with h | h
      · exact hZ.2.2.1 q h
      · obtain ⟨z, -, hz⟩ := List.mem_map.mp h
        rw [← hz]
        exact Nat.le_add_right _ _, by rw [hsz]; exact hZ.2.2.2⟩ _ hheap X'
  exact ⟨t, step t a1, b1⟩
end ZN
