/-! ===== rows over the pure memory: arrays, new cells, references, compares ===== -/
theorem KK.arr {G : ZG} {s : State} (h : KK G s) {t : FieldType} (k : Nat) (hk : (zTys G)[k]? = some (G.2.2 t, t)) : ArrOfT s (G.2.2 t) t ∧ va_RA s (G.2.2 t) t := h.2 k _ hk
/-- the length of the array at a place -/
def alen (a : Nat) : Nat := match shp a with
  | .inl q => q.2
  | .inr _ => 0
/-- an array of a type lies at a place -/
def isA (M : Mem) (a : Nat) (t : FieldType) : Prop := (∃ n, shp a = .inl (t, n)) ∧ a < mz M
/-- an object of a class lies at a place -/
def isO (M : Mem) (a ci : Nat) : Prop := shp a = .inr ci ∧ a < mz M
theorem isA.shp {M : Mem} {a : Nat} {t : FieldType} (h : isA M a t) : Jvm.Pilot.CLeaningIndexLaw_law_r1413_6fbd45.shp a = .inl (t, alen a) := by
  obtain ⟨⟨n, h⟩, -⟩ := h
  unfold alen
  rw [h]
/-- an index within a length -/
def inb (i : Int32) (n : Nat) : Prop := vp_in i n
section ZR2
variable {p : Program} {l : Launch} {e : Env} {R : Room} {s : State} {m : MethodId} {args : Array Value} {below : List Frame} {meth : Method} {c : Code} {H : Heap} {locs : List Loc} {cells slots : Nat} {Q : State → Prop}
variable {H0 : Heap} {G : ZG} {ph : Bool} {base z0 nL fr lo : Nat} {cc : ByteArray} {own : String} {M : Mem} {pc : Nat} {ls : Array Slot} {rest st0 : List Value} {d0 : Drawn}
theorem z_alen (A : Amb p R s m args meth c G base z0 cc own nL fr lo) (hZ : ZH G ph base H0 M H locs) {a : Nat} {t : FieldType} (ho : isA M a t) (k : Nat) (hk : (zTys G)[k]? = some (G.2.2 t, t)) (hdg : decode cc pc = .ok (.arraylength, 1))
    (kk : W p l e R s m args below meth c H locs cells slots Q (F0 m (pc + 1) ls (.int (Int32.ofNat (alen a)) :: rest))) : W p l e R s m args below meth c H locs cells slots Q (F0 m pc ls (.ref (base + a) :: rest)) := by
  obtain ⟨hx, hb, -, -, -, -, hK, -⟩ := A
  have h1 := (hZ.1.2.2.1 a ho.2).arr ho.shp
  exact W.alen (n := Int32.ofNat (alen a)) hx hb h1 ((hK.arr k hk).1 _ _) (by rw [arrV_size] <;> rfl) rfl rfl hdg kk
theorem z_iald (A : Amb p R s m args meth c G base z0 cc own nL fr lo) (hZ : ZH G ph base H0 M H locs) {a : Nat} {i : Int32} (ho : isA M a .int) (hin : inb i (alen a)) (hdg : decode cc pc = .ok (.iaload, 1))
    (kk : W p l e R s m args below meth c H locs cells slots Q (F0 m (pc + 1) ls (.int (mI M a i.toNatClampNeg) :: rest))) : W p l e R s m args below meth c H locs cells slots Q (F0 m pc ls (.int i :: .ref (base + a) :: rest)) := by
  obtain ⟨hx, hb, -, -, -, -, hK, -⟩ := A
  have h1 := (hZ.1.2.2.1 a ho.2).arr ho.shp
  have hlt : i.toNatClampNeg < alen a := Nat.not_le.mp fun q => hin (Or.inr q)
  exact W.iald (v := .int (mI M a i.toNatClampNeg)) hx hb h1 ((hK.arr 0 rfl).1 _ _) (fun q => by cases q) (by rw [arrV_size]; exact hin) (by rw [arrV_read _ _ hlt]; rfl) rfl rfl hdg kk
theorem z_zald (A : Amb p R s m args meth c G base z0 cc own nL fr lo) (hZ : ZH G ph base H0 M H locs) {a : Nat} {i : Int32} (ho : isA M a .boolean) (hin : inb i (alen a)) (hdg : decode cc pc = .ok (.baload, 1))
    (kk : W p l e R s m args below meth c H locs cells slots Q (F0 m (pc + 1) ls (.int (mI M a i.toNatClampNeg) :: rest))) : W p l e R s m args below meth c H locs cells slots Q (F0 m pc ls (.int i :: .ref (base + a) :: rest)) := by
  obtain ⟨hx, hb, -, -, -, -, hK, -⟩ := A
  have h1 := (hZ.1.2.2.1 a ho.2).arr ho.shp
  have hlt : i.toNatClampNeg < alen a := Nat.not_le.mp fun q => hin (Or.inr q)
  exact W.zald (v := .int (mI M a i.toNatClampNeg)) hx hb h1 ((hK.arr 2 rfl).1 _ _) (fun q => by cases q) (by rw [arrV_size]; exact hin) (by rw [arrV_read _ _ hlt]; rfl) rfl rfl hdg kk
theorem z_lald (A : Amb p R s m args meth c G base z0 cc own nL fr lo) (hZ : ZH G ph base H0 M H locs) {a : Nat} {i : Int32} (ho : isA M a .long) (hin : inb i (alen a)) (hdg : decode cc pc = .ok (.laload, 1))
    (kk : W p l e R s m args below meth c H locs cells slots Q (F0 m (pc + 1) ls (.long (mL M a i.toNatClampNeg) :: rest))) : W p l e R s m args below meth c H locs cells slots Q (F0 m pc ls (.int i :: .ref (base + a) :: rest)) := by
  obtain ⟨hx, hb, -, -, -, -, hK, -⟩ := A
  have h1 := (hZ.1.2.2.1 a ho.2).arr ho.shp
  have hlt : i.toNatClampNeg < alen a := Nat.not_le.mp fun q => hin (Or.inr q)
  exact W.lald (v := .long (mL M a i.toNatClampNeg)) hx hb h1 ((hK.arr 1 rfl).1 _ _) (fun q => by cases q) (by rw [arrV_size]; exact hin) (by rw [arrV_read _ _ hlt]; rfl) rfl rfl hdg kk
theorem z_aald (A : Amb p R s m args meth c G base z0 cc own nL fr lo) (hZ : ZH G ph base H0 M H locs) {a : Nat} {i : Int32} {C : String} (k : Nat) (hk : (zTys G)[k]? = some (G.2.2 (.object C), .object C)) (ho : isA M a (.object C)) (hin : inb i (alen a)) (hdg : decode cc pc = .ok (.aaload, 1))
    (kk : W p l e R s m args below meth c H locs cells slots Q (F0 m (pc + 1) ls (vr base (zref ph M a i.toNatClampNeg) :: rest))) : W p l e R s m args below meth c H locs cells slots Q (F0 m pc ls (.int i :: .ref (base + a) :: rest)) := by
  obtain ⟨hx, hb, -, -, -, -, hK, -⟩ := A
  have h1 := (hZ.1.2.2.1 a ho.2).arr ho.shp
  have hlt : i.toNatClampNeg < alen a := Nat.not_le.mp fun q => hin (Or.inr q)
  exact W.aald (v := vr base (zref ph M a i.toNatClampNeg)) (ty := .object C) hx hb h1 ((hK.arr k hk).1 _ _) rfl (fun q => by cases q) (by rw [arrV_size]; exact hin) (by rw [arrV_read _ _ hlt]; rfl) rfl rfl hdg kk
theorem z_iast (A : Amb p R s m args meth c G base z0 cc own nL fr lo) (hZ : ZH G ph base H0 M H locs) {a : Nat} {i x : Int32} (ho : isA M a .int) (hin : inb i (alen a)) (hdg : decode cc pc = .ok (.iastore, 1))
    (kk : ∀ (H' : Heap) (locs' : List Loc), ZH G ph base H0 (sI M a i.toNatClampNeg x) H' locs' → W p l e R s m args below meth c H' locs' cells slots Q (F0 m (pc + 1) ls rest)) : W p l e R s m args below meth c H locs cells slots Q (F0 m pc ls (.int x :: .int i :: .ref (base + a) :: rest)) := by
  obtain ⟨hx, hb, -, -, -, -, hK, -⟩ := A
  have h1 := (hZ.1.2.2.1 a ho.2).arr ho.shp
  refine W.iast hx hb h1 ((hK.arr 0 rfl).1 _ _) (fun q => by cases q) (by rw [arrV_size]; exact hin) rfl rfl hdg fun H' e1 e2 e3 => ?_
  exact kk H' _ (hZ.put (hZ.1.putA ho.shp zUpd_I e1 e2 e3) e2 e3)
theorem z_zast (A : Amb p R s m args meth c G base z0 cc own nL fr lo) (hZ : ZH G ph base H0 M H locs) {a : Nat} {i x : Int32} (ho : isA M a .boolean) (hin : inb i (alen a)) (hbx : x = 0 ∨ x = 1) (hdg : decode cc pc = .ok (.bastore, 1))
    (kk : ∀ (H' : Heap) (locs' : List Loc), ZH G ph base H0 (sI M a i.toNatClampNeg x) H' locs' → W p l e R s m args below meth c H' locs' cells slots Q (F0 m (pc + 1) ls rest)) : W p l e R s m args below meth c H locs cells slots Q (F0 m pc ls (.int x :: .int i :: .ref (base + a) :: rest)) := by
  obtain ⟨hx, hb, -, -, -, -, hK, -⟩ := A
  have h1 := (hZ.1.2.2.1 a ho.2).arr ho.shp
  have hn : narrow .boolean (.int x) = .int x := by rcases hbx with rfl | rfl <;> rfl
  refine W.zast hx hb h1 ((hK.arr 2 rfl).1 _ _) (fun q => by cases q) (by rw [arrV_size]; exact hin) rfl rfl hdg fun H' e1 e2 e3 => ?_
  rw [hn] at e1
  exact kk H' _ (hZ.put (hZ.1.putA ho.shp zUpd_Z e1 e2 e3) e2 e3)
theorem z_last (A : Amb p R s m args meth c G base z0 cc own nL fr lo) (hZ : ZH G ph base H0 M H locs) {a : Nat} {i : Int32} {x : Int64} (ho : isA M a .long) (hin : inb i (alen a)) (hdg : decode cc pc = .ok (.lastore, 1))
    (kk : ∀ (H' : Heap) (locs' : List Loc), ZH G ph base H0 (sL M a i.toNatClampNeg x) H' locs' → W p l e R s m args below meth c H' locs' cells slots Q (F0 m (pc + 1) ls rest)) : W p l e R s m args below meth c H locs cells slots Q (F0 m pc ls (.long x :: .int i :: .ref (base + a) :: rest)) := by
  obtain ⟨hx, hb, -, -, -, -, hK, -⟩ := A
  have h1 := (hZ.1.2.2.1 a ho.2).arr ho.shp
  refine W.last hx hb h1 ((hK.arr 1 rfl).1 _ _) (fun q => by cases q) (by rw [arrV_size]; exact hin) rfl rfl hdg fun H' e1 e2 e3 => ?_
  exact kk H' _ (hZ.put (hZ.1.putA ho.shp zUpd_L e1 e2 e3) e2 e3)
theorem z_aast (A : Amb p R s m args meth c G base z0 cc own nL fr lo) (hZ : ZH G ph base H0 M H locs) {a v ci : Nat} {i : Int32} {C : String} (k : Nat) (hk : (zTys G)[k]? = some (G.2.2 (.object C), .object C)) (hci : ci < 6) (hC : RF ci = C) (ho : isA M a (.object C)) (hv : isO M v ci) (hin : inb i (alen a)) (hfin : ph = true → zfin a i.toNatClampNeg = none) (hdg : decode cc pc = .ok (.aastore, 1))
    (kk : ∀ (H' : Heap) (locs' : List Loc), ZH G ph base H0 (sR M a i.toNatClampNeg (some v)) H' locs' → W p l e R s m args below meth c H' locs' cells slots Q (F0 m (pc + 1) ls rest)) : W p l e R s m args below meth c H locs cells slots Q (F0 m pc ls (.ref (base + v) :: .int i :: .ref (base + a) :: rest)) := by
  obtain ⟨hx, hb, -, -, -, -, hK, -⟩ := A
  have h1 := (hZ.1.2.2.1 a ho.2).arr ho.shp
  have hlt : i.toNatClampNeg < alen a := Nat.not_le.mp fun q => hin (Or.inr q)
  have h0 : ¬ i < 0 := fun q => hin (Or.inl q)
  obtain ⟨cellV, g1, g2, g3, -⟩ := (hZ.1.2.2.1 v hv.2).obj hv.1
  have hcls := (hK.1 ci _ (zc_cl ci hci)).2
  obtain ⟨kA, comp, k1, k2, k3, -⟩ := (hK.arr k hk).2
  subst hC
  have hcomp : comp = G.1 ci := Option.some.inj (k3.symm.trans hcls.1)
  subst hcomp
  obtain ⟨kC, hkC, -⟩ := hcls.2
  refine W.aast hx hb h1 (fun q h => by cases h) (fun h => by cases h) k1 k2 rfl hkC ⟨h0, by rw [arrV_size]; exact hlt⟩ g1 (fun q h => by rw [g3] at h; cases h) (by rw [g2]; exact hkC) (by rw [g2]; exact va_assign hcls) rfl rfl hdg fun H' e1 e2 e3 => ?_
  exact kk H' _ (hZ.put (hZ.1.putA ho.shp (v := vr base (some v)) (zUpd_R hfin) e1 e2 e3) e2 e3)
/-- a new object -/
theorem z_new (A : Amb p R s m args meth c G base z0 cc own nL fr lo) (hZ : ZH G ph base s.heap M H locs) {a : Nat} (ea : a = mz M) {ci idx : Nat} (hci : ci < 6) (hs : shp (mz M) = .inr ci) (hm : mz M < ZMAX) (hw1 : Cond.classLink own idx (RF ci) ∈ W0) (hw2 : Cond.instantiable (RF ci) (nF ci) ∈ W0) (hw3 : Cond.initialized (RF ci) ∈ W0) (hfin : ∀ j, ph = true → zfin (mz M) j = none) (hfl : ∀ j, j < nF ci → tyF ci j ≠ .float) (hdg : decode cc pc = .ok (.new idx, 3))
    (kk : ∀ (H' : Heap) (cells' slots' : Nat), ZH G ph base s.heap (nw M) H' locs → W p l e R s m args below meth c H' locs cells' slots' Q (F0 m (pc + 3) ls (.ref (base + a) :: rest))) : W p l e R s m args below meth c H locs cells slots Q (F0 m pc ls rest) := by
  subst ea
  refine z_tight A hZ ?_
  obtain ⟨hx, hb, -, hown, hts, -, hK, -, hsz, hrc, hrs, -⟩ := A
  have h1 := hZ.1.1
  have h2 := hZ.2.2.2
  have hKn := hK.1 ci _ (zc_cl ci hci)
  have hcs : SS (mz M) + nF ci ≤ SS ZMAX := by
    have := SS_mono (show mz M + 1 ≤ ZMAX by omega)
    rw [SS_succ] at this
    unfold csz at this
    rw [hs] at this
    exact this
  have hs0 : SS z0 ≤ SS (mz M) := SS_mono (by omega)
  refine W.newc hx hb hown (hts _ hw1) (hts _ hw2) (hts _ hw3) rfl hdg (by omega) (by omega) fun cC kC f1 f2 f3 f4 => ?_
  have hcC : cC = G.1 ci := Option.some.inj (f1.symm.trans hKn.2.1)
  subst hcC
  generalize hH1 : H.push ({ cls := G.1 ci, slots := kC.instanceTypes.map defaultValue, vm := .none } : Cell) = H1
  have z1 : H1.size = H.size + 1 := by rw [← hH1, Array.size_push]
  have e1 : H1[H.size]? = some (blank (G.1 ci) kC) := by rw [← hH1, Array.getElem?_push_size]; rfl
  have o1 : ∀ q : Nat, q < H.size → H1[q]? = H[q]? := fun q hq => by rw [← hH1, Array.getElem?_push, if_neg (Nat.ne_of_lt hq)]
  have hOB := u_born (tyF ci) hts (zc_in ci hci) hKn f2 e1 (zc_ty ci hci)
  rw [h1] at hOB e1
  rw [h1]
  refine kk H1 _ _ (hZ.new (hZ.1.new z1 o1 hm (zOK.ofObj hs ⟨_, e1, rfl, rfl, ?_, fun j hj => ?_⟩)) z1 o1)
  · show (kC.instanceTypes.map defaultValue).size = nF ci
    rw [Array.size_map, f4]
  · obtain ⟨c0, q1, q2, q3, q4⟩ := hOB
    cases e1.symm.trans q1
    rw [zval_nw_self (hfin j) (hfl j hj)]
    exact q4 j hj
/-- a new array of numbers -/
theorem z_newa (A : Amb p R s m args meth c G base z0 cc own nL fr lo) (hZ : ZH G ph base s.heap M H locs) {a : Nat} (ea : a = mz M) {atype : ArrayType} {t : FieldType} {n : Int32} {N : Nat} (ht : newarray.typeOf atype = t) (k : Nat) (hk : (zTys G)[k]? = some (G.2.2 t, t)) (htp : t = .int ∨ t = .long ∨ t = .boolean) (hs : shp (mz M) = .inl (t, N)) (hm : mz M < ZMAX) (hw : Cond.arrayClass t ∈ W0) (hfin : ∀ j, ph = true → zfin (mz M) j = none) (hn : ¬ n < 0) (hN : n.toNatClampNeg = N) (hbytes : N * componentBytes t ≤ 536870912) (hdg : decode cc pc = .ok (.newarray atype, 2))
    (kk : ∀ (H' : Heap) (cells' slots' : Nat), ZH G ph base s.heap (nw M) H' locs → W p l e R s m args below meth c H' locs cells' slots' Q (F0 m (pc + 2) ls (.ref (base + a) :: rest))) : W p l e R s m args below meth c H locs cells slots Q (F0 m pc ls (.int n :: rest)) := by
  subst ea
  refine z_tight A hZ ?_
  obtain ⟨hx, hb, -, hown, hts, -, hK, -, hsz, hrc, hrs, -⟩ := A
  have h1 := hZ.1.1
  have h2 := hZ.2.2.2
  have hcs : SS (mz M) + N ≤ SS ZMAX := by
    have := SS_mono (show mz M + 1 ≤ ZMAX by omega)
    rw [SS_succ] at this
    unfold csz at this
    rw [hs] at this
    exact this
  have hs0 : SS z0 ≤ SS (mz M) := SS_mono (by omega)
  subst ht
  have hra := (hK.arr k hk).2
  refine va_newaK hx hb (hts _ hw) rfl hdg rfl hn hN hbytes (by omega) (by omega) h1 fun H1 cA e1 z1 o1 _ hNm => ?_
  have hcA : cA = G.2.2 (newarray.typeOf atype) := by
    have h3 : s.vm.findClass ("[" ++ (newarray.typeOf atype).toString) = some (G.2.2 (newarray.typeOf atype)) := by
      rcases htp with h | h | h <;> (rw [h] at hra ⊢; exact hra)
    exact Option.some.inj (hNm.symm.trans h3)
  subst hcA
  rw [← h1] at z1 o1
  refine kk H1 _ _ (hZ.new (hZ.1.new z1 o1 hm (zOK.ofArr hs ?_)) z1 o1)
  rw [e1]
  congr 2
  funext j
  exact (zval_nw_self (hfin j) (by rcases htp with h | h | h <;> (rw [h]; exact fun q => by cases q))).symm
/-- a new array of objects -/
theorem z_newq (A : Amb p R s m args meth c G base z0 cc own nL fr lo) (hZ : ZH G ph base s.heap M H locs) {a : Nat} (ea : a = mz M) {C : String} {idx : Nat} {n : Int32} {N : Nat} (k : Nat) (hk : (zTys G)[k]? = some (G.2.2 (.object C), .object C)) (hs : shp (mz M) = .inl (.object C, N)) (hm : mz M < ZMAX) (hw1 : Cond.classLink own idx C ∈ W0) (hw2 : Cond.arrayOver (.object C) ∈ NWl) (hfin : ∀ j, ph = true → zfin (mz M) j = none) (hn : ¬ n < 0) (hN : n.toNatClampNeg = N) (hbytes : N * 4 ≤ 536870912) (hdg : decode cc pc = .ok (.anewarray idx, 3))
    (kk : ∀ (H' : Heap) (cells' slots' : Nat), ZH G ph base s.heap (nw M) H' locs → W p l e R s m args below meth c H' locs cells' slots' Q (F0 m (pc + 3) ls (.ref (base + a) :: rest))) : W p l e R s m args below meth c H locs cells slots Q (F0 m pc ls (.int n :: rest)) := by
  subst ea
  refine z_tight A hZ ?_
  obtain ⟨hx, hb, -, hown, hts, hnw, hK, -, hsz, hrc, hrs, -⟩ := A
  have h1 := hZ.1.1
  have h2 := hZ.2.2.2
  have hcs : SS (mz M) + N ≤ SS ZMAX := by
    have := SS_mono (show mz M + 1 ≤ ZMAX by omega)
    rw [SS_succ] at this
    unfold csz at this
    rw [hs] at this
    exact this
  have hs0 : SS z0 ≤ SS (mz M) := SS_mono (by omega)
  subst hN
  obtain ⟨kA', comp', k1, k2, k3, k4⟩ := (hK.arr k hk).2
  refine W.anew hx hb hown (hts _ hw1) (va_AO.use (hnw _ hw2)) rfl hdg rfl hn hbytes (by omega) (by omega) fun cA kA comp f1 f2 f3 f4 => ?_
  have hcA : cA = G.2.2 (.object C) := Option.some.inj (f1.symm.trans k4)
  subst hcA
  generalize hH1 : H.push ({ cls := G.2.2 (.object C), slots := Array.replicate n.toNatClampNeg .null, vm := .none } : Cell) = H1
  have z1 : H1.size = H.size + 1 := by rw [← hH1, Array.size_push]
  have e1 : H1[H.size]? = some (arrV (G.2.2 (.object C)) n.toNatClampNeg (fun _ => .null)) := by rw [← hH1, Array.getElem?_push_size, ← arrV_new]
  have o1 : ∀ q : Nat, q < H.size → H1[q]? = H[q]? := fun q hq => by rw [← hH1, Array.getElem?_push, if_neg (Nat.ne_of_lt hq)]
  rw [h1] at e1
  rw [h1]
  refine kk H1 _ _ (hZ.new (hZ.1.new z1 o1 hm (zOK.ofArr hs ?_)) z1 o1)
  rw [e1]
  congr 2
  funext j
  exact (zval_nw_self (t := .object C) (hfin j) (fun q => by cases q)).symm
/-! references that may be null -/
theorem z_aload_n (hx : p.tables.exec = Jvm.exec) (hb : c.code = cc) {k : Fin 4} {i : Nat} {r : Option Nat} (hdg : decode cc pc = .ok (.aload_n k, 1)) (hi : (k : Nat) = i) (hl : ls[i]? = some (.val (vr base r)))
    (kk : W p l e R s m args below meth c H locs cells slots Q (F0 m (pc + 1) ls (vr base r :: rest))) : W p l e R s m args below meth c H locs cells slots Q (F0 m pc ls rest) := by
  cases r with
  | none => exact lv_aload_nN hx hb hdg hi hl kk
  | some a => exact lv_aload_n hx hb hdg hi hl kk
theorem z_aload (hx : p.tables.exec = Jvm.exec) (hb : c.code = cc) {i : Nat} {r : Option Nat} (hdg : decode cc pc = .ok (.aload i, 2)) (hl : ls[i]? = some (.val (vr base r)))
    (kk : W p l e R s m args below meth c H locs cells slots Q (F0 m (pc + 2) ls (vr base r :: rest))) : W p l e R s m args below meth c H locs cells slots Q (F0 m pc ls rest) := by
  cases r with
  | none => exact lv_aloadN hx hb hdg hl kk
  | some a => exact lv_aload hx hb hdg hl kk
theorem z_astore_n (hx : p.tables.exec = Jvm.exec) (hb : c.code = cc) {k : Fin 4} {i : Nat} {r : Option Nat} {lv lv' : List (Nat × Value)} (hdg : decode cc pc = .ok (.astore_n k, 1)) (hi : (k : Nat) = i) (h : lv_has ls nL lv) (hn : i < nL) (hl : (i, vr base r) :: lv.filter (fun q => !(q.1 == i) && !(q.1 + 1 == i && q.2.category == 2)) = lv')
    (kk : ∀ ls' : Array Slot, lv_has ls' nL lv' → W p l e R s m args below meth c H locs cells slots Q (F0 m (pc + 1) ls' rest)) : W p l e R s m args below meth c H locs cells slots Q (F0 m pc ls (vr base r :: rest)) := by
  cases r with
  | none => exact lv_astore_nN hx hb hdg hi h hn hl kk
  | some a => exact lv_astore_n hx hb hdg hi h hn hl kk
theorem z_astore (hx : p.tables.exec = Jvm.exec) (hb : c.code = cc) {i : Nat} {r : Option Nat} {lv lv' : List (Nat × Value)} (hdg : decode cc pc = .ok (.astore i, 2)) (h : lv_has ls nL lv) (hn : i < nL) (hl : (i, vr base r) :: lv.filter (fun q => !(q.1 == i) && !(q.1 + 1 == i && q.2.category == 2)) = lv')
    (kk : ∀ ls' : Array Slot, lv_has ls' nL lv' → W p l e R s m args below meth c H locs cells slots Q (F0 m (pc + 2) ls' rest)) : W p l e R s m args below meth c H locs cells slots Q (F0 m pc ls (vr base r :: rest)) := by
  cases r with
  | none => exact lv_astoreN hx hb hdg h hn hl kk
  | some a => exact lv_astore hx hb hdg h hn hl kk
theorem z_null (hx : p.tables.exec = Jvm.exec) (hb : c.code = cc) (hdg : decode cc pc = .ok (.aconst_null, 1)) (kk : W p l e R s m args below meth c H locs cells slots Q (F0 m (pc + 1) ls (vr base none :: rest))) : W p l e R s m args below meth c H locs cells slots Q (F0 m pc ls rest) := lv_null hx hb hdg kk
theorem z_ifnull (hx : p.tables.exec = Jvm.exec) (hb : c.code = cc) {r : Option Nat} {off : Int} {tgt : Nat} (hdg : decode cc pc = .ok (.ifnull off, 3)) (ht : (pc : Int) + off = (tgt : Int)) (kt : r = none → W p l e R s m args below meth c H locs cells slots Q (F0 m tgt ls rest)) (kf : ∀ a, r = some a → W p l e R s m args below meth c H locs cells slots Q (F0 m (pc + 3) ls rest)) : W p l e R s m args below meth c H locs cells slots Q (F0 m pc ls (vr base r :: rest)) := by
  cases r with
  | none => exact lv_ifnullN hx hb hdg ht (kt rfl)
  | some a => exact lv_ifnull hx hb hdg (kf a rfl)
theorem z_ifnonnull (hx : p.tables.exec = Jvm.exec) (hb : c.code = cc) {r : Option Nat} {off : Int} {tgt : Nat} (hdg : decode cc pc = .ok (.ifnonnull off, 3)) (ht : (pc : Int) + off = (tgt : Int)) (kt : ∀ a, r = some a → W p l e R s m args below meth c H locs cells slots Q (F0 m tgt ls rest)) (kf : r = none → W p l e R s m args below meth c H locs cells slots Q (F0 m (pc + 3) ls rest)) : W p l e R s m args below meth c H locs cells slots Q (F0 m pc ls (vr base r :: rest)) := by
  cases r with
  | none => exact lv_ifnonnullN hx hb hdg (kf rfl)
  | some a => exact lv_ifnonnull hx hb hdg ht (kt a rfl)
/-! a compare of longs and the branch on it -/
theorem z_lc_lt (hx : p.tables.exec = Jvm.exec) (hb : c.code = cc) {x y : Int64} {off : Int} {tgt : Nat} (hd1 : decode cc pc = .ok (.lcmp, 1)) (hd2 : decode cc (pc + 1) = .ok (.ifCond .lt off, 3)) (ht : ((pc + 1 : Nat) : Int) + off = (tgt : Int)) (kt : x < y → W p l e R s m args below meth c H locs cells slots Q (F0 m tgt ls rest)) (kf : ¬ x < y → W p l e R s m args below meth c H locs cells slots Q (F0 m (pc + 1 + 3) ls rest)) : W p l e R s m args below meth c H locs cells slots Q (F0 m pc ls (.long y :: .long x :: rest)) :=
  W.lcmp hx hb hd1 (lv_if_lt hx hb hd2 ht (fun h => kt ((lg_cmp_lt x y).mp h)) (fun h => kf (fun q => h ((lg_cmp_lt x y).mpr q))))
theorem z_lc_ge (hx : p.tables.exec = Jvm.exec) (hb : c.code = cc) {x y : Int64} {off : Int} {tgt : Nat} (hd1 : decode cc pc = .ok (.lcmp, 1)) (hd2 : decode cc (pc + 1) = .ok (.ifCond .ge off, 3)) (ht : ((pc + 1 : Nat) : Int) + off = (tgt : Int)) (kt : y ≤ x → W p l e R s m args below meth c H locs cells slots Q (F0 m tgt ls rest)) (kf : ¬ y ≤ x → W p l e R s m args below meth c H locs cells slots Q (F0 m (pc + 1 + 3) ls rest)) : W p l e R s m args below meth c H locs cells slots Q (F0 m pc ls (.long y :: .long x :: rest)) :=
  W.lcmp hx hb hd1 (lv_if_ge hx hb hd2 ht (fun h => kt ((lg_cmp_ge x y).mp h)) (fun h => kf (fun q => h ((lg_cmp_ge x y).mpr q))))
theorem z_lc_gt (hx : p.tables.exec = Jvm.exec) (hb : c.code = cc) {x y : Int64} {off : Int} {tgt : Nat} (hd1 : decode cc pc = .ok (.lcmp, 1)) (hd2 : decode cc (pc + 1) = .ok (.ifCond .gt off, 3)) (ht : ((pc + 1 : Nat) : Int) + off = (tgt : Int)) (kt : y < x → W p l e R s m args below meth c H locs cells slots Q (F0 m tgt ls rest)) (kf : ¬ y < x → W p l e R s m args below meth c H locs cells slots Q (F0 m (pc + 1 + 3) ls rest)) : W p l e R s m args below meth c H locs cells slots Q (F0 m pc ls (.long y :: .long x :: rest)) :=
  W.lcmp hx hb hd1 (lv_if_gt hx hb hd2 ht (fun h => kt ((lg_cmp_gt x y).mp h)) (fun h => kf (fun q => h ((lg_cmp_gt x y).mpr q))))
theorem z_lc_le (hx : p.tables.exec = Jvm.exec) (hb : c.code = cc) {x y : Int64} {off : Int} {tgt : Nat} (hd1 : decode cc pc = .ok (.lcmp, 1)) (hd2 : decode cc (pc + 1) = .ok (.ifCond .le off, 3)) (ht : ((pc + 1 : Nat) : Int) + off = (tgt : Int)) (kt : x ≤ y → W p l e R s m args below meth c H locs cells slots Q (F0 m tgt ls rest)) (kf : ¬ x ≤ y → W p l e R s m args below meth c H locs cells slots Q (F0 m (pc + 1 + 3) ls rest)) : W p l e R s m args below meth c H locs cells slots Q (F0 m pc ls (.long y :: .long x :: rest)) :=
  W.lcmp hx hb hd1 (lv_if_le hx hb hd2 ht (fun h => kt ((lg_cmp_le x y).mp h)) (fun h => kf (fun q => h ((lg_cmp_le x y).mpr q))))
theorem z_lc_eq (hx : p.tables.exec = Jvm.exec) (hb : c.code = cc) {x y : Int64} {off : Int} {tgt : Nat} (hd1 : decode cc pc = .ok (.lcmp, 1)) (hd2 : decode cc (pc + 1) = .ok (.ifCond .eq off, 3)) (ht : ((pc + 1 : Nat) : Int) + off = (tgt : Int)) (kt : x = y → W p l e R s m args below meth c H locs cells slots Q (F0 m tgt ls rest)) (kf : ¬ x = y → W p l e R s m args below meth c H locs cells slots Q (F0 m (pc + 1 + 3) ls rest)) : W p l e R s m args below meth c H locs cells slots Q (F0 m pc ls (.long y :: .long x :: rest)) :=
  W.lcmp hx hb hd1 (lv_if_eq hx hb hd2 ht (fun h => kt ((lg_cmp_eq x y).mp h)) (fun h => kf (fun q => h ((lg_cmp_eq x y).mpr q))))
theorem z_lc_ne (hx : p.tables.exec = Jvm.exec) (hb : c.code = cc) {x y : Int64} {off : Int} {tgt : Nat} (hd1 : decode cc pc = .ok (.lcmp, 1)) (hd2 : decode cc (pc + 1) = .ok (.ifCond .ne off, 3)) (ht : ((pc + 1 : Nat) : Int) + off = (tgt : Int)) (kt : ¬ x = y → W p l e R s m args below meth c H locs cells slots Q (F0 m tgt ls rest)) (kf : x = y → W p l e R s m args below meth c H locs cells slots Q (F0 m (pc + 1 + 3) ls rest)) : W p l e R s m args below meth c H locs cells slots Q (F0 m pc ls (.long y :: .long x :: rest)) :=
  W.lcmp hx hb hd1 (lv_if_ne hx hb hd2 ht (fun h => kt (fun q => h ((lg_cmp_eq x y).mpr q))) (fun h => kf ((lg_cmp_eq x y).mp h)))
end ZR2
