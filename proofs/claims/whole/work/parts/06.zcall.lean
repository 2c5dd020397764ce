/-! ===== contracts over the pure memory: calls, starts, ends ===== -/
abbrev wsM (y : MethodName) (bytes : ByteArray) (n : Nat) (r : Option FieldType) : List Cond := .code y bytes n r :: W0
abbrev rmM (fr lo : Nat) (M : Mem) : Room := { frames := fr, cells := ZMAX - mz M, slots := SS ZMAX - SS (mz M), locals := lo }
def ZB (G : ZG) (ph : Bool) (base : Nat) (M : Mem) : State → Prop := fun U => Rep G ph base M U.heap ∧ KK G U ∧ ∀ w ∈ NWl, va_Nw w U
def ZQc (G : ZG) (ph : Bool) (base : Nat) (Qv : Option Value → Mem → Prop) : Array Value → State → Outcome → State → Prop := fun _ st oc t =>
  ∃ (v : Option Value) (M' : Mem), oc = .returned v ∧ Qv v M' ∧ Rep G ph base M' t.heap ∧ st.heap.size ≤ t.heap.size ∧ ∀ q : Nat, q < base → t.heap[q]? = st.heap[q]?
def zFree (base : Nat) : Addr → Prop := fun q => base ≤ q
abbrev ZMet (l : Launch) (y : MethodName) (bytes : ByteArray) (n : Nat) (r : Option FieldType) (fr lo : Nat) (G : ZG) (ph : Bool) (base : Nat) (M : Mem) (av : List Value) (Qv : Option Value → Mem → Prop) : Prop :=
  MetD lw_cs l y (wsM y bytes n r) (rmM fr lo M) (va_Pc av (ZB G ph base M)) (ZQc G ph base Qv) (ZMAX - mz M) (SS ZMAX - SS (mz M)) (zFree base)
abbrev ZEnd (below : List Frame) (G : ZG) (ph : Bool) (base z0 : Nat) (Qv : Option Value → Mem → Prop) (args : Array Value) (s : State) : State → Prop :=
  MQD lw_cs below (ZQc G ph base Qv) args s (ZMAX - z0) (SS ZMAX - SS z0) (zFree base)
theorem ZB.blind {G : ZG} {ph : Bool} {base : Nat} {M : Mem} {av : List Value} : FrameBlind (va_Pc av (ZB G ph base M)) := by
  intro a U g mk h
  obtain ⟨h1, h2, h3, h4⟩ := h
  exact ⟨h1, h2, KK.moved (u := U) (U := U.calling g mk a) (Vm.Alike.refl U.vm) h3, NW_same (s := U) (U := U.calling g mk a) rfl h4⟩
section ZC
variable {p : Program} {l : Launch} {e : Env} {R : Room} {s : State} {m : MethodId} {args : Array Value} {below : List Frame} {meth : Method} {c : Code} {H : Heap} {locs : List Loc} {cells slots : Nat} {Q : State → Prop}
variable {G : ZG} {ph : Bool} {base z0 nL fr lo : Nat} {cc : ByteArray} {own : String} {M : Mem} {pc : Nat} {ls : Array Slot} {rest st0 : List Value} {d0 : Drawn} {lv : List (Nat × Value)} {Qv : Option Value → Mem → Prop}
/-- behind a call -/
theorem z_ofrun (A : ∀ d, Amb p R (s.setDrawn d) m args meth c G base z0 cc own nL fr lo) (hd0 : s.drawn.sameBut d0 lw_cs) (hZ : ZH G ph base s.heap M H locs) {mc ms : Nat} {av : Array Value}
    (hr : va_RunD lw_cs p l e R (s.setDrawn d0) m args below meth c H locs (mz M - z0) (SS (mz M) - SS z0) mc ms (F0 m pc ls st0) rest (ZQc G ph base Qv av) (zFree base))
    (kk : ∀ (v : Option Value) (M' : Mem) (H' : Heap) (locs' : List Loc) (d' : Drawn) (cells' slots' : Nat), Qv v M' → s.drawn.sameBut d' lw_cs → ZH G ph base s.heap M' H' locs' → mz M ≤ mz M' → W p l e R (s.setDrawn d') m args below meth c H' locs' cells' slots' Q (F0 m (pc + 3) ls (v.toList ++ rest))) : W p l e R (s.setDrawn d0) m args below meth c H locs cells slots Q (F0 m pc ls st0) := by
  refine z_tight (A d0) hZ ?_
  intro T hT X
  obtain ⟨v, st₀, t, T', L, d', hd', h0, X', hL, e1, e2, ⟨v', M', hv, hq, hR, hsz, hk⟩, st⟩ := hr T hT X
  cases hv
  rw [h0] at hsz hk
  obtain ⟨t2, a1, b1⟩ := kk v M' T'.heap (locs ++ L) d' _ _ hq (hd0.trans hd') ⟨by rw [e1]; exact hR, fun q h1 => by rw [e1, hk q h1]; exact hZ.2.1 q h1, fun q hq => by
      rcases List.mem_append.mp hq with h | h
      · exact hZ.2.2.1 q h
      · exact hL q h, by rw [e1]; exact Nat.le_trans hZ.2.2.2 hsz⟩ (by have a1 := hZ.1.1; have a2 := hR.1; omega) T' rfl X'
  exact ⟨t2, st t2 a1, b1⟩
theorem Amb.books (A : Amb p R s m args meth c G base z0 cc own nL fr lo) (hZ : ZH G ph base s.heap M H locs) : (mz M - z0) + (ZMAX - mz M) ≤ R.cells ∧ (SS (mz M) - SS z0) + (SS ZMAX - SS (mz M)) ≤ R.slots := by
  obtain ⟨-, -, -, -, -, -, -, -, hsz, hrc, hrs, -⟩ := A
  have h1 := hZ.1.1
  have h2 := hZ.2.2.2
  have h3 := hZ.1.2.1
  have a1 := SS_mono h3
  have a2 := SS_mono (show z0 ≤ mz M by omega)
  omega
theorem Amb.pre (A : Amb p R s m args meth c G base z0 cc own nL fr lo) (hZ : ZH G ph base s.heap M H locs) {As : List Value} : ∀ U : State, U.heap = H → s.WarmedH U.vm → va_Pc As (ZB G ph base M) As.toArray U := by
  obtain ⟨-, -, -, -, -, hnw, hK, -⟩ := A
  exact fun U hU hW => ⟨rfl, by rw [hU]; exact hZ.1, hK.moved hW.alike, NW_warm hW hnw⟩
theorem z_callV (A : ∀ d, Amb p R (s.setDrawn d) m args meth c G base z0 cc own nL fr lo) (hd0 : s.drawn.sameBut d0 lw_cs) (hZ : ZH G ph base s.heap M H locs) {ci b idx n nA fr' lo' : Nat} {y : MethodName} {bytes : ByteArray} {r : Option FieldType} {As : List Value} (hci : ci < 6) (ho : isO M b ci)
    (hM : ZMet l y bytes n r fr' lo' G ph base M (.ref (base + b) :: As) Qv) (hw1 : Cond.methodLink own idx y ∈ W0) (hw2 : Cond.instanceMethod y ∈ W0) (hw3 : Cond.selects (RF ci) y y ∈ W0) (hw4 : Cond.initialized (RF ci) ∈ W0) (hw5 : Cond.code y bytes n r ∈ W0)
    (hd : y.cls = RF ci ∧ y.cls ≠ "java/lang/invoke/MethodHandle" ∧ y.cls ≠ "java/lang/invoke/VarHandle" ∧ (parseMethodDescriptor y.desc).map (fun d => d.parameters.length) = some nA) (hR : fr' + 1 ≤ fr ∧ 8 + (n + 11) + lo' ≤ lo) (hn : As.length = nA)
    (hst : st0 = As.reverse ++ .ref (base + b) :: rest) (hW : (rest.map fun v => v.category).sum ≤ 8) (hl : lv_has ls nL lv) (hdg : decode cc pc = .ok (.invokevirtual idx, 3))
    (kk : ∀ (v : Option Value) (M' : Mem) (H' : Heap) (locs' : List Loc) (d' : Drawn) (cells' slots' : Nat), Qv v M' → s.drawn.sameBut d' lw_cs → ZH G ph base s.heap M' H' locs' → mz M ≤ mz M' → W p l e R (s.setDrawn d') m args below meth c H' locs' cells' slots' Q (F0 m (pc + 3) ls (v.toList ++ rest))) : W p l e R (s.setDrawn d0) m args below meth c H locs cells slots Q (F0 m pc ls st0) := by
  have bk := (A d0).books hZ
  have pr := (A d0).pre hZ (As := .ref (base + b) :: As)
  obtain ⟨hx, hb, hml, hown, hts, hnw, hK, -, -, -, -, hf1, hf2⟩ := A d0
  obtain ⟨cellB, g1, g2, g3, -⟩ := (hZ.1.2.2.1 b ho.2).obj ho.1
  have hcls := (hK.1 ci _ (zc_cl ci hci)).2
  refine z_ofrun A hd0 hZ (va_runV_D (As := As) (rest := rest) (Ts := W0) ⟨hx, hb, hml, hown, hts⟩ hM (cwV nA hts (z_GoodIn fun w hw => ?_) rfl rfl rfl hd ⟨Nat.le_trans hR.1 hf1, Nat.le_trans hR.2 hf2⟩) ⟨ZB.blind, ⟨cellB, g1, by rw [g3]; rfl, by rw [g2]; exact hcls.1⟩, pr⟩ rfl hn hl.1 hst (lv_room hW) hdg bk) kk
  simp only [wsV, List.cons_append, List.nil_append, List.mem_cons] at hw
  rcases hw with rfl | rfl | rfl | rfl | rfl | hw
  · exact hw1
  · exact hw2
  · exact hw3
  · exact hw4
  · exact hw5
  · exact hw
theorem z_callS (A : ∀ d, Amb p R (s.setDrawn d) m args meth c G base z0 cc own nL fr lo) (hd0 : s.drawn.sameBut d0 lw_cs) (hZ : ZH G ph base s.heap M H locs) {idx n nA fr' lo' : Nat} {y : MethodName} {bytes : ByteArray} {r : Option FieldType} {As : List Value}
    (hM : ZMet l y bytes n r fr' lo' G ph base M As Qv) (hw1 : Cond.methodLink own idx y ∈ W0) (hw2 : Cond.static y ∈ W0) (hw4 : Cond.initialized y.cls ∈ W0) (hw5 : Cond.code y bytes n r ∈ W0)
    (hd : y.cls ≠ "java/lang/invoke/MethodHandle" ∧ y.cls ≠ "java/lang/invoke/VarHandle" ∧ (parseMethodDescriptor y.desc).map (fun d => d.parameters.length) = some nA) (hR : fr' + 1 ≤ fr ∧ 8 + (n + 11) + lo' ≤ lo) (hn : As.length = nA)
    (hst : st0 = As.reverse ++ rest) (hW : (rest.map fun v => v.category).sum ≤ 8) (hl : lv_has ls nL lv) (hdg : decode cc pc = .ok (.invokestatic idx, 3))
    (kk : ∀ (v : Option Value) (M' : Mem) (H' : Heap) (locs' : List Loc) (d' : Drawn) (cells' slots' : Nat), Qv v M' → s.drawn.sameBut d' lw_cs → ZH G ph base s.heap M' H' locs' → mz M ≤ mz M' → W p l e R (s.setDrawn d') m args below meth c H' locs' cells' slots' Q (F0 m (pc + 3) ls (v.toList ++ rest))) : W p l e R (s.setDrawn d0) m args below meth c H locs cells slots Q (F0 m pc ls st0) := by
  have bk := (A d0).books hZ
  have pr := (A d0).pre hZ (As := As)
  obtain ⟨hx, hb, hml, hown, hts, hnw, hK, -, -, -, -, hf1, hf2⟩ := A d0
  refine z_ofrun A hd0 hZ (va_runS_D (As := As) (rest := rest) (Ts := W0) ⟨hx, hb, hml, hown, hts⟩ hM (va_cwS nA hts (z_GoodIn fun w hw => ?_) rfl rfl rfl hd ⟨Nat.le_trans hR.1 hf1, Nat.le_trans hR.2 hf2⟩) ⟨ZB.blind, pr⟩ rfl hn hl.1 hst (lv_room hW) hdg bk) kk
  simp only [va_wsS, List.cons_append, List.nil_append, List.mem_cons] at hw
  rcases hw with rfl | rfl | rfl | rfl | hw
  · exact hw1
  · exact hw2
  · exact hw4
  · exact hw5
  · exact hw
theorem z_callI (A : ∀ d, Amb p R (s.setDrawn d) m args meth c G base z0 cc own nL fr lo) (hd0 : s.drawn.sameBut d0 lw_cs) (hZ : ZH G ph base s.heap M H locs) {b idx n nA fr' lo' : Nat} {y : MethodName} {bytes : ByteArray} {As : List Value}
    (hM : ZMet l y bytes n none fr' lo' G ph base M (.ref (base + b) :: As) Qv) (hy1 : y.name = "<init>") (hw1 : Cond.methodLink own idx y ∈ W0) (hw2 : Cond.instanceMethod y ∈ W0) (hw4 : Cond.initialized y.cls ∈ W0) (hw5 : Cond.code y bytes n none ∈ W0)
    (hd : y.cls ≠ "java/lang/invoke/MethodHandle" ∧ y.cls ≠ "java/lang/invoke/VarHandle" ∧ (parseMethodDescriptor y.desc).map (fun d => d.parameters.length) = some nA) (hR : fr' + 1 ≤ fr ∧ 8 + (n + 11) + lo' ≤ lo) (hn : As.length = nA)
    (hst : st0 = As.reverse ++ .ref (base + b) :: rest) (hW : (rest.map fun v => v.category).sum ≤ 8) (hl : lv_has ls nL lv) (hdg : decode cc pc = .ok (.invokespecial idx, 3))
    (kk : ∀ (v : Option Value) (M' : Mem) (H' : Heap) (locs' : List Loc) (d' : Drawn) (cells' slots' : Nat), Qv v M' → s.drawn.sameBut d' lw_cs → ZH G ph base s.heap M' H' locs' → mz M ≤ mz M' → W p l e R (s.setDrawn d') m args below meth c H' locs' cells' slots' Q (F0 m (pc + 3) ls (v.toList ++ rest))) : W p l e R (s.setDrawn d0) m args below meth c H locs cells slots Q (F0 m pc ls st0) := by
  have bk := (A d0).books hZ
  have pr := (A d0).pre hZ (As := .ref (base + b) :: As)
  obtain ⟨hx, hb, hml, hown, hts, hnw, hK, -, -, -, -, hf1, hf2⟩ := A d0
  exact z_ofrun A hd0 hZ (va_runI_D (As := As) (rest := rest) (Ts := W0) ⟨hx, hb, hml, hown, hts⟩ hM ⟨callB_of nA hts (z_GoodIn fun w hw => (List.mem_cons.mp hw).elim (fun e => e ▸ hw5) id) rfl rfl rfl (hts _ hw4) (hts _ hw1) hd ⟨Nat.le_trans hR.1 hf1, Nat.le_trans hR.2 hf2⟩, hy1, hts _ hw2⟩ ⟨ZB.blind, pr⟩ rfl hn hl.1 hst (lv_room hW) hdg bk) kk
theorem z_callIN (A : ∀ d, Amb p R (s.setDrawn d) m args meth c G base z0 cc own nL fr lo) (hd0 : s.drawn.sameBut d0 lw_cs) (hZ : ZH G ph base s.heap M H locs) {b idx n nA fr' lo' : Nat} {host : String} {y : MethodName} {bytes : ByteArray} {As : List Value}
    (hM : ZMet l y bytes n none fr' lo' G ph base M (.ref (base + b) :: As) Qv) (hy1 : y.name = "<init>") (hw1 : Cond.methodLinkNest own idx y host ∈ NWl) (hw2 : Cond.instanceMethod y ∈ W0) (hw4 : Cond.initialized y.cls ∈ W0) (hw5 : Cond.code y bytes n none ∈ W0)
    (hd : y.cls ≠ "java/lang/invoke/MethodHandle" ∧ y.cls ≠ "java/lang/invoke/VarHandle" ∧ (parseMethodDescriptor y.desc).map (fun d => d.parameters.length) = some nA) (hR : fr' + 1 ≤ fr ∧ 8 + (n + 11) + lo' ≤ lo) (hn : As.length = nA)
    (hst : st0 = As.reverse ++ .ref (base + b) :: rest) (hW : (rest.map fun v => v.category).sum ≤ 8) (hl : lv_has ls nL lv) (hdg : decode cc pc = .ok (.invokespecial idx, 3))
    (kk : ∀ (v : Option Value) (M' : Mem) (H' : Heap) (locs' : List Loc) (d' : Drawn) (cells' slots' : Nat), Qv v M' → s.drawn.sameBut d' lw_cs → ZH G ph base s.heap M' H' locs' → mz M ≤ mz M' → W p l e R (s.setDrawn d') m args below meth c H' locs' cells' slots' Q (F0 m (pc + 3) ls (v.toList ++ rest))) : W p l e R (s.setDrawn d0) m args below meth c H locs cells slots Q (F0 m pc ls st0) := by
  have bk := (A d0).books hZ
  have pr := (A d0).pre hZ (As := .ref (base + b) :: As)
  obtain ⟨hx, hb, hml, hown, hts, hnw, hK, -, -, -, -, hf1, hf2⟩ := A d0
  exact z_ofrun A hd0 hZ (va_runIN_D (As := As) (rest := rest) (Ts := W0) ⟨hx, hb, hml, hown, hts⟩ hM ⟨va_cnB nA hts (z_GoodIn fun w hw => (List.mem_cons.mp hw).elim (fun e => e ▸ hw5) id) rfl rfl rfl (hnw _ hw1) (hts _ hw4) hd ⟨Nat.le_trans hR.1 hf1, Nat.le_trans hR.2 hf2⟩, hy1, hts _ hw2⟩ ⟨ZB.blind, pr⟩ rfl hn hl.1 hst (lv_room hW) hdg bk) kk
/-! ends -/
theorem z_end (A : ∀ d, Amb p R (s.setDrawn d) m args meth c G base z0 cc own nL fr lo) (hd0 : s.drawn.sameBut d0 lw_cs) (hZ : ZH G ph base s.heap M H locs) {g : JFrame}
    (k : W p l e R (s.setDrawn d0) m args below meth c H locs (ZMAX - z0) (SS ZMAX - SS z0) (MQ below (ZQc G ph base Qv) args (s.setDrawn d0) (ZMAX - z0) (SS ZMAX - SS z0) (zFree base)) g) : W p l e R (s.setDrawn d0) m args below meth c H locs cells slots (ZEnd below G ph base z0 Qv args s) g := by
  refine z_tight (A d0) hZ ?_
  refine W.endD hd0 ?_
  have h3 := hZ.1.2.1
  exact W.widen (by omega) (Nat.sub_le_sub_right (SS_mono h3) _) k
theorem ZH.end (hZ : ZH G ph base s.heap M H locs) {v : Option Value} (hQ : Qv v M) : ∀ t : State, t.heap = H → (s.setDrawn d0).WarmedH t.vm → ZQc G ph base Qv args (s.setDrawn d0) (.returned v) t :=
  fun t ht _ => ⟨v, M, rfl, hQ, by rw [ht]; exact hZ.1, by rw [ht]; exact hZ.2.2.2, fun q hq => by rw [ht]; exact hZ.2.1 q hq⟩
theorem z_vret (A : ∀ d, Amb p R (s.setDrawn d) m args meth c G base z0 cc own nL fr lo) (hd0 : s.drawn.sameBut d0 lw_cs) (hZ : ZH G ph base s.heap M H locs) (hr : meth.sig.returnType = none) (hQ : Qv none M) (hdg : decode cc pc = .ok (.return_, 1)) : W p l e R (s.setDrawn d0) m args below meth c H locs cells slots (ZEnd below G ph base z0 Qv args s) (F0 m pc ls []) :=
  z_end A hd0 hZ (W.vret (A d0).1 (A d0).2.1 hr (hZ.end hQ) hZ.2.2.1 hdg (hlocks := (A d0).2.2.2.2.2.2.2.1))
theorem z_iret (A : ∀ d, Amb p R (s.setDrawn d) m args meth c G base z0 cc own nL fr lo) (hd0 : s.drawn.sameBut d0 lw_cs) (hZ : ZH G ph base s.heap M H locs) (hr : meth.sig.returnType = some .int) {v : Int32} (hQ : Qv (some (.int v)) M) (hdg : decode cc pc = .ok (.ireturn, 1)) : W p l e R (s.setDrawn d0) m args below meth c H locs cells slots (ZEnd below G ph base z0 Qv args s) (F0 m pc ls [.int v]) :=
  z_end A hd0 hZ (W.iret (A d0).1 (A d0).2.1 hr (hZ.end hQ) hZ.2.2.1 hdg (hlocks := (A d0).2.2.2.2.2.2.2.1))
theorem z_zret (A : ∀ d, Amb p R (s.setDrawn d) m args meth c G base z0 cc own nL fr lo) (hd0 : s.drawn.sameBut d0 lw_cs) (hZ : ZH G ph base s.heap M H locs) (hr : meth.sig.returnType = some .boolean) {v : Int32} (hv : v = 0 ∨ v = 1) (hQ : Qv (some (.int v)) M) (hdg : decode cc pc = .ok (.ireturn, 1)) : W p l e R (s.setDrawn d0) m args below meth c H locs cells slots (ZEnd below G ph base z0 Qv args s) (F0 m pc ls [.int v]) :=
  z_end A hd0 hZ (W.zret (A d0).1 (A d0).2.1 hr (by rcases hv with rfl | rfl <;> rfl) (hZ.end hQ) hZ.2.2.1 hdg (hlocks := (A d0).2.2.2.2.2.2.2.1))
theorem z_lret (A : ∀ d, Amb p R (s.setDrawn d) m args meth c G base z0 cc own nL fr lo) (hd0 : s.drawn.sameBut d0 lw_cs) (hZ : ZH G ph base s.heap M H locs) (hr : meth.sig.returnType = some .long) {v : Int64} (hQ : Qv (some (.long v)) M) (hdg : decode cc pc = .ok (.lreturn, 1)) : W p l e R (s.setDrawn d0) m args below meth c H locs cells slots (ZEnd below G ph base z0 Qv args s) (F0 m pc ls [.long v]) :=
  z_end A hd0 hZ (W.lret (A d0).1 (A d0).2.1 hr (hZ.end hQ) hZ.2.2.1 hdg (hlocks := (A d0).2.2.2.2.2.2.2.1))
theorem z_aret (A : ∀ d, Amb p R (s.setDrawn d) m args meth c G base z0 cc own nL fr lo) (hd0 : s.drawn.sameBut d0 lw_cs) (hZ : ZH G ph base s.heap M H locs) {C : String} (hr : meth.sig.returnType = some (.object C)) {r : Option Nat} (hQ : Qv (some (vr base r)) M) (hdg : decode cc pc = .ok (.areturn, 1)) : W p l e R (s.setDrawn d0) m args below meth c H locs cells slots (ZEnd below G ph base z0 Qv args s) (F0 m pc ls [vr base r]) :=
  z_end A hd0 hZ (W.aret (A d0).1 (A d0).2.1 hr (Or.inl ⟨_, rfl⟩) (vr_or _ _) (hZ.end hQ) hZ.2.2.1 hdg (hlocks := (A d0).2.2.2.2.2.2.2.1))
end ZC
/-- as MetD.ofW, for a method that no entry of the machine's own overrides -/
theorem z_ofWF {cs : List Choice} {l : Launch} {y : MethodName} {ws ws' : List Cond} {rm : Room} {Pc : Array Value → State → Prop} {Qc : Array Value → State → Outcome → State → Prop} {mc ms : Nat} {free : Addr → Prop} {cc : ByteArray} {maxL : Nat} {ret : Option FieldType}
    (hy : plainFor y = true) (hw : ws = Cond.code y cc maxL ret :: ws')
    (body : ∀ p e s m args below meth c s₁, BodyLoose p l y (headSpec ws rm) cc maxL ret e s m args below meth c s₁ → c.maxLocals = maxL → Pc args s → s.drawn.sameBut s.drawn cs →
      W p l e (headSpec ws rm).room (s.setDrawn s.drawn) m args below meth c s.heap [] 0 0 (MQD cs below Qc args s mc ms free) (entryFrame m args maxL)) : MetD cs l y ws rm Pc Qc mc ms free := by
  refine MetFree.of_bodySF (code := cc) (maxLocals := maxL) (ret := ret) hy ?_ ?_
  · intro args s m h hn
    obtain ⟨meth, c, h1, h2, h3, h4, h5, h6, -, -⟩ := Cond.code_spec hn (atoms_spec (ws := ws) h _ (by rw [hw]; exact List.mem_cons_self))
    exact ⟨meth, c, h1, h2, h3, h4, h5, h6⟩
  · intro p e s m args below meth c s₁ B hml hP _
    have hh0 : s₁.heap = s.heap := by rw [B.state]; rfl
    have X0 : Stand p l e (headSpec ws rm).room (s.setDrawn s.drawn) m args below meth c s₁ [] 0 0 := Stand.of_body B
    obtain ⟨t, a1, d, hd, o, b1, b2, b3, b4⟩ := body p e s m args below meth c s₁ B hml hP (Drawn.sameBut.refl _ _) s₁ hh0 X0
    exact ⟨t, o, a1, b1, b2, d, hd, b3, b4⟩
/-- the start of a method -/
theorem z_start {l : Launch} {y : MethodName} {bytes : ByteArray} {n fr lo : Nat} {r : Option FieldType} {G : ZG} {ph : Bool} {base : Nat} {M : Mem} {av : List Value} {Qv : Option Value → Mem → Prop} (hy : plainFor y = true) (hav : (lg_sl av).length ≤ n) (hin : Cond.code y bytes n r ∈ W0)
    (body : ∀ (p : Program) (e : Env) (s : State) (m : MethodId) (below : List Frame) (meth : Method) (c : Code) (R : Room) (d0 : Drawn) (H : Heap) (locs : List Loc) (cells slots : Nat) (ls : Array Slot), (∀ d, Amb p R (s.setDrawn d) m av.toArray meth c G base (mz M) bytes y.cls n fr lo) → meth.sig.returnType = r → meth.name = y.name → s.drawn.sameBut d0 lw_cs → ZH G ph base s.heap M H locs → lv_has ls n (lv_args 0 av) →
      W p l e R (s.setDrawn d0) m av.toArray below meth c H locs cells slots (ZEnd below G ph base (mz M) Qv av.toArray s) (F0 m 0 ls [])) : ZMet l y bytes n r fr lo G ph base M av Qv := by
  refine z_ofWF (cc := bytes) (maxL := n) (ret := r) hy rfl ?_
  intro p e s m args below meth c s₁ B hml hv hd0
  obtain ⟨rfl, hR, hK, hnw⟩ := hv
  have hts := atoms_spec (ws := wsM y bytes n r) B.pre
  have hown : s.vm.findClass y.cls = some m.cls := findClass_of_methodNamed B.named
  have A : Amb p (headSpec (wsM y bytes n r) (rmM fr lo M)).room s m av.toArray meth c G base (mz M) bytes y.cls n fr lo := by
    refine ⟨B.exec, B.bytes, hml, hown, fun w hw => hts w (List.mem_cons_of_mem _ hw), hnw, hK, B.notSynchronized, hR.1, ?_, ?_, Nat.le_refl _, Nat.le_refl _⟩
    · show ZMAX ≤ (ZMAX - mz M) + mz M
      omega
    · show SS ZMAX ≤ (SS ZMAX - SS (mz M)) + SS (mz M)
      omega
  rw [lg_entry_eq]
  exact body p e s m below meth c _ s.drawn s.heap [] 0 0 _ A.dr B.returns (name_of_methodNamed B.named B.method).1 hd0 ⟨hR, fun _ _ => rfl, fun _ h => absurd h List.not_mem_nil, Nat.le_refl _⟩ (lv_entry av hav)
