/-! ===== rows over the pure memory ===== -/
theorem zc_cl : ∀ ci, ci < 6 → vwCl[ci]? = some (RF ci, TF ci, nF ci)
  | 0, _ => rfl | 1, _ => rfl | 2, _ => rfl | 3, _ => rfl | 4, _ => rfl | 5, _ => rfl
  | ci + 6, h => absurd h (by omega)
theorem zc_in : ∀ ci, ci < 6 → ∀ w ∈ u_ws (RF ci) (TF ci) (nF ci), w ∈ W0
  | 0, _ => k_lyX0 | 1, _ => k_lyX1 | 2, _ => k_lyX2 | 3, _ => k_lyX3 | 4, _ => k_lyX4 | 5, _ => k_lyX5
  | ci + 6, h => absurd h (by omega)
theorem zc_ty : ∀ ci, ci < 6 → ∀ k, k < nF ci → parseFieldDescriptor (TF ci k).2.2.1 = some (tyF ci k)
  | 0, _ => tyX0_ok | 1, _ => tyX1_ok | 2, _ => tyX2_ok | 3, _ => tyX3_ok | 4, _ => tyX4_ok | 5, _ => tyX5_ok
  | ci + 6, h => absurd h (by omega)
theorem zc_nm : ∀ ci, ci < 6 → ∀ a, a < nF ci → ∀ b, b < nF ci → a ≠ b → (TF ci a).2.1 ≠ (TF ci b).2.1
  | 0, _ => nmX0 | 1, _ => nmX1 | 2, _ => nmX2 | 3, _ => nmX3 | 4, _ => nmX4 | 5, _ => nmX5
  | ci + 6, h => absurd h (by omega)
abbrev zTys (G : ZG) : List (ClassId × FieldType) := [(G.2.2 .int, .int), (G.2.2 .long, .long), (G.2.2 .boolean, .boolean), (G.2.2 (.object "LeaningIndex$Piece"), .object "LeaningIndex$Piece"), (G.2.2 (.object "LeaningIndex$Tier"), .object "LeaningIndex$Tier")]
def KK (G : ZG) (s : State) : Prop := va_K (G.1, G.2.1) vwCl (zTys G) s
theorem KK.moved {G : ZG} {u U : State} (hvm : u.vm.Alike U.vm) (h : KK G u) : KK G U := va_K.moved hvm h
theorem KK.apart {G : ZG} {s : State} {args : Array Value} (h : KK G s) (hts : ∀ w ∈ W0, w.before args s = true) {ci : Nat} (hci : ci < 6) : ∀ x y, x < nF ci → y < nF ci → x ≠ y → G.2.1 ci x ≠ G.2.1 ci y :=
  va_apart (own := "") hts (zc_in ci hci) (tyF ci) (zc_ty ci hci) (zc_nm ci hci) h (zc_cl ci hci)
/-! the words of nest mates -/
def nestW : Cond → Bool
  | .fieldLinkNest _ _ _ _ _ _ => true
  | .methodLinkNest _ _ _ _ => true
  | .arrayOver (.object _) => true
  | _ => false
theorem NWl_nest : NWl.all nestW = true := by decide +kernel
theorem nest_warm {w : Cond} (hw : nestW w = true) {s U : State} (hW : s.WarmedH U.vm) (h : va_Nw w s) : va_Nw w U := by
  unfold nestW at hw
  split at hw
  · exact va_Nw.warmF hW h
  · exact va_Nw.warmM hW h
  · exact va_AO.moved hW.alike h
  · cases hw
theorem NW_warm {s U : State} (hW : s.WarmedH U.vm) (h : ∀ w ∈ NWl, va_Nw w s) : ∀ w ∈ NWl, va_Nw w U := fun w hw => nest_warm (List.all_eq_true.mp NWl_nest w hw) hW (h w hw)
theorem nest_same {w : Cond} (hw : nestW w = true) {s U : State} (hv : s.vm = U.vm) (h : va_Nw w s) : va_Nw w U := by
  unfold nestW at hw
  split at hw
  · exact va_Nw.same rfl hv h
  · exact va_Nw.same rfl hv h
  · exact va_AO.moved (hv ▸ Vm.Alike.refl _) h
  · cases hw
theorem NW_same {s U : State} (hv : s.vm = U.vm) (h : ∀ w ∈ NWl, va_Nw w s) : ∀ w ∈ NWl, va_Nw w U := fun w hw => nest_same (List.all_eq_true.mp NWl_nest w hw) hv (h w hw)
/-- what a walk stands on -/
def Amb (p : Program) (R : Room) (s : State) (m : MethodId) (args : Array Value) (meth : Method) (c : Code) (G : ZG) (base z0 : Nat) (cc : ByteArray) (own : String) (nL fr lo : Nat) : Prop :=
  p.tables.exec = Jvm.exec ∧ c.code = cc ∧ c.maxLocals = nL ∧ s.vm.findClass own = some m.cls ∧ (∀ w ∈ W0, w.before args s = true) ∧ (∀ w ∈ NWl, va_Nw w s) ∧ KK G s ∧ meth.locks = false ∧ s.heap.size = base + z0 ∧ ZMAX ≤ R.cells + z0 ∧ SS ZMAX ≤ R.slots + SS z0 ∧ fr ≤ R.frames ∧ lo ≤ R.locals
def ZH (G : ZG) (ph : Bool) (base : Nat) (H0 : Heap) (M : Mem) (H : Heap) (locs : List Loc) : Prop := Rep G ph base M H ∧ (∀ q : Nat, q < base → H[q]? = H0[q]?) ∧ (∀ q ∈ locs, base ≤ q.base) ∧ H0.size ≤ H.size
section ZR
variable {p : Program} {l : Launch} {e : Env} {R : Room} {s : State} {m : MethodId} {args : Array Value} {below : List Frame} {meth : Method} {c : Code} {H : Heap} {locs : List Loc} {cells slots : Nat} {Q : State → Prop}
variable {H0 : Heap} {G : ZG} {ph : Bool} {base z0 nL fr lo : Nat} {cc : ByteArray} {own : String} {M : Mem} {pc : Nat} {ls : Array Slot} {rest st0 : List Value} {d0 : Drawn}
theorem ZH.put {M' : Mem} {H' : Heap} {a i : Nat} (hZ : ZH G ph base H0 M H locs) (hR : Rep G ph base M' H') (hs : H'.size = H.size) (ho : ∀ q : Nat, q ≠ base + a → H'[q]? = H[q]?) : ZH G ph base H0 M' H' (locs ++ [⟨base + a, i⟩]) := by
  refine ⟨hR, fun q hq => by rw [ho q (by omega)]; exact hZ.2.1 q hq, fun q hq => ?_, by rw [hs]; exact hZ.2.2.2⟩
  rcases List.mem_append.mp hq with h | h
  · exact hZ.2.2.1 q h
  · rw [List.mem_singleton] at h; subst h; exact Nat.le_add_right _ _
theorem ZH.new {M' : Mem} {H' : Heap} (hZ : ZH G ph base H0 M H locs) (hR : Rep G ph base M' H') (hs : H'.size = H.size + 1) (ho : ∀ q : Nat, q < H.size → H'[q]? = H[q]?) : ZH G ph base H0 M' H' locs := by
  have h1 := hZ.1.1
  refine ⟨hR, fun q hq => by rw [ho q (by omega)]; exact hZ.2.1 q hq, hZ.2.2.1, by rw [hs]; exact Nat.le_succ_of_le hZ.2.2.2⟩
theorem Amb.dr (A : Amb p R s m args meth c G base z0 cc own nL fr lo) (d : Drawn) : Amb p R (s.setDrawn d) m args meth c G base z0 cc own nL fr lo := by
  obtain ⟨hx, hb, hml, hown, hts, hnw, hK, hlk, r⟩ := A
  exact ⟨hx, hb, hml, hown, dr_words hts d, NW_same (s := s) (U := s.setDrawn d) rfl hnw, KK.moved (u := s) (U := s.setDrawn d) (Vm.Alike.refl s.vm) hK, hlk, r⟩
/-- the books of cells and slots, made tight -/
theorem z_tight (A : Amb p R s m args meth c G base z0 cc own nL fr lo) (hZ : ZH G ph base s.heap M H locs) {g : JFrame}
    (k : W p l e R s m args below meth c H locs (mz M - z0) (SS (mz M) - SS z0) Q g) : W p l e R s m args below meth c H locs cells slots Q g := by
  intro T hT X
  obtain ⟨-, -, -, -, -, -, -, -, hsz, -⟩ := A
  have h1 := hZ.1.1
  have h2 := hZ.2.2.2
  have h3 : ((H.toList.drop (base + z0)).map (·.slots.size)).sum + SS z0 = SS (mz M) := hZ.1.slots (mz M - z0) z0 (by omega)
  refine k T hT { X with same := ?_ }
  obtain ⟨a1, a2, a3, a4, a5, a6⟩ := X.same
  refine ⟨a1, a2, ?_, a4, ?_, a6⟩
  · show T.heap.size ≤ s.heap.size + (mz M - z0)
    rw [hT]; omega
  · show ((T.heap.toList.drop s.heap.size).map (·.slots.size)).sum ≤ SS (mz M) - SS z0
    rw [hT, hsz]; omega
theorem z_get (A : Amb p R s m args meth c G base z0 cc own nL fr lo) (hZ : ZH G ph base H0 M H locs) {ci a j idx : Nat} (ho : shp a = .inr ci) (ha : a < mz M) (hci : ci < 6) (hj : j < nF ci)
    (hw : Cond.fieldLink own idx (TF ci j).1 (TF ci j).2.1 (TF ci j).2.2.1 ∈ W0) {v : Value} (hv : zval ph base M a j (tyF ci j) = v) (hdg : decode cc pc = .ok (.getfield idx, 3))
    (kk : W p l e R s m args below meth c H locs cells slots Q (F0 m (pc + 3) ls (v :: rest))) : W p l e R s m args below meth c H locs cells slots Q (F0 m pc ls (.ref (base + a) :: rest)) := by
  obtain ⟨hx, hb, -, hown, hts, -, hK, -⟩ := A
  obtain ⟨cell, q1, q2, q3, q4, q5⟩ := (hZ.1.2.2.1 a ha).obj ho
  obtain ⟨hS, hfc, kC, hkC, hkind⟩ := hK.1 ci _ (zc_cl ci hci)
  obtain ⟨cf, kf, fi, f, hi, hsl⟩ := hS j hj
  refine W.getf hx hb hown (hts _ hw) hi (u_facts hfc hkC (u_lays hts (zc_in ci hci) hj) hi).1 q1 (by rw [q3]; exact fun h => by cases h) (v := v) ?_ rfl rfl hdg kk
  rw [hsl, q5 j hj, hv]
theorem z_getN (A : Amb p R s m args meth c G base z0 cc own nL fr lo) (hZ : ZH G ph base H0 M H locs) {ci a j idx : Nat} {host : String} (ho : shp a = .inr ci) (ha : a < mz M) (hci : ci < 6) (hj : j < nF ci)
    (hw : Cond.fieldLinkNest own idx (TF ci j).1 (TF ci j).2.1 (TF ci j).2.2.1 host ∈ NWl) {v : Value} (hv : zval ph base M a j (tyF ci j) = v) (hdg : decode cc pc = .ok (.getfield idx, 3))
    (kk : W p l e R s m args below meth c H locs cells slots Q (F0 m (pc + 3) ls (v :: rest))) : W p l e R s m args below meth c H locs cells slots Q (F0 m pc ls (.ref (base + a) :: rest)) := by
  obtain ⟨hx, hb, -, hown, hts, hnw, hK, -⟩ := A
  obtain ⟨cell, q1, q2, q3, q4, q5⟩ := (hZ.1.2.2.1 a ha).obj ho
  obtain ⟨hS, hfc, kC, hkC, hkind⟩ := hK.1 ci _ (zc_cl ci hci)
  obtain ⟨cf, kf, fi, f, hi, hsl⟩ := hS j hj
  refine va_Wgetf hx hb hown (va_Nw.use rfl (hnw _ hw)) hi (u_facts hfc hkC (u_lays hts (zc_in ci hci) hj) hi).1 q1 (by rw [q3]; exact fun h => by cases h) (v := v) ?_ rfl rfl hdg kk
  rw [hsl, q5 j hj, hv]
theorem z_put (A : Amb p R s m args meth c G base z0 cc own nL fr lo) (hZ : ZH G ph base H0 M H locs) {ci a j idx : Nat} (ho : shp a = .inr ci) (ha : a < mz M) (hci : ci < 6) (hj : j < nF ci)
    (hw : Cond.fieldLink own idx (TF ci j).1 (TF ci j).2.1 (TF ci j).2.2.1 ∈ W0) (hfin : (TF ci j).2.2.2 = false) {v : Value} {M' : Mem} (hu : zUpd ph base M M' a j (tyF ci j) v) (hn : narrow (tyF ci j) v = v) (hfit : fits (tyF ci j) v = true) (hdg : decode cc pc = .ok (.putfield idx, 3))
    (kk : ∀ (H' : Heap) (locs' : List Loc), ZH G ph base H0 M' H' locs' → W p l e R s m args below meth c H' locs' cells slots Q (F0 m (pc + 3) ls rest)) : W p l e R s m args below meth c H locs cells slots Q (F0 m pc ls (v :: .ref (base + a) :: rest)) := by
  obtain ⟨hx, hb, -, hown, hts, -, hK, -⟩ := A
  obtain ⟨cell, q1, q2, q3, q4, q5⟩ := (hZ.1.2.2.1 a ha).obj ho
  obtain ⟨hS, hfc, kC, hkC, hkind⟩ := hK.1 ci _ (zc_cl ci hci)
  obtain ⟨cf, kf, fi, f, hi, hsl⟩ := hS j hj
  have hlay := hts _ (zc_in ci hci _ (u_in_lay hj))
  unfold u_lay at hlay
  rw [if_neg (by rw [hfin]; decide)] at hlay
  have hst := (u_facts hfc hkC (u_lays hts (zc_in ci hci) hj) hi).1
  have h6 := u_store hfc hkC hkind hlay hi (zc_ty ci hci j hj) hn hfit
  refine W.putK hx hb (f := f) ⟨hown, hts _ hw, ⟨_, _, _, hi⟩, hst⟩ (by rw [q2]; exact h6) q1 q3 (by rw [hsl]; exact k2_hasslot (q5 j hj)) rfl rfl hdg fun H' e1 e2 e3 => ?_
  rw [hsl] at e1 ⊢
  exact kk H' _ (hZ.put (hZ.1.putO ho hj (hK.apart hts hci) hu ha q1 e1 e2 e3) e2 e3)
theorem z_putN (A : Amb p R s m args meth c G base z0 cc own nL fr lo) (hZ : ZH G ph base H0 M H locs) {ci a j idx : Nat} {host : String} (ho : shp a = .inr ci) (ha : a < mz M) (hci : ci < 6) (hj : j < nF ci)
    (hw : Cond.fieldLinkNest own idx (TF ci j).1 (TF ci j).2.1 (TF ci j).2.2.1 host ∈ NWl) (hfin : (TF ci j).2.2.2 = false) {v : Value} {M' : Mem} (hu : zUpd ph base M M' a j (tyF ci j) v) (hn : narrow (tyF ci j) v = v) (hfit : fits (tyF ci j) v = true) (hdg : decode cc pc = .ok (.putfield idx, 3))
    (kk : ∀ (H' : Heap) (locs' : List Loc), ZH G ph base H0 M' H' locs' → W p l e R s m args below meth c H' locs' cells slots Q (F0 m (pc + 3) ls rest)) : W p l e R s m args below meth c H locs cells slots Q (F0 m pc ls (v :: .ref (base + a) :: rest)) := by
  obtain ⟨hx, hb, -, hown, hts, hnw, hK, -⟩ := A
  obtain ⟨cell, q1, q2, q3, q4, q5⟩ := (hZ.1.2.2.1 a ha).obj ho
  obtain ⟨hS, hfc, kC, hkC, hkind⟩ := hK.1 ci _ (zc_cl ci hci)
  obtain ⟨cf, kf, fi, f, hi, hsl⟩ := hS j hj
  have hlay := hts _ (zc_in ci hci _ (u_in_lay hj))
  unfold u_lay at hlay
  rw [if_neg (by rw [hfin]; decide)] at hlay
  have hst := (u_facts hfc hkC (u_lays hts (zc_in ci hci) hj) hi).1
  have h6 := u_store hfc hkC hkind hlay hi (zc_ty ci hci j hj) hn hfit
  refine va_WputK hx hb (f := f) hown (va_Nw.use rfl (hnw _ hw)) hi hst (by rw [q2]; exact h6) q1 q3 (by rw [hsl]; exact k2_hasslot (q5 j hj)) rfl rfl hdg fun H' e1 e2 e3 => ?_
  rw [hsl] at e1 ⊢
  exact kk H' _ (hZ.put (hZ.1.putO ho hj (hK.apart hts hci) hu ha q1 e1 e2 e3) e2 e3)
/-- a final field, in its class's constructor -/
theorem z_putF (A : Amb p R s m args meth c G base z0 cc own nL fr lo) (hZ : ZH G ph base H0 M H locs) {ci a j idx : Nat} (ho : shp a = .inr ci) (ha : a < mz M) (hci : ci < 6) (hj : j < nF ci)
    (hw : Cond.fieldLink own idx (TF ci j).1 (TF ci j).2.1 (TF ci j).2.2.1 ∈ W0) (hfin : (TF ci j).2.2.2 = true) (hdecl : (TF ci j).1 = own) (hin2 : meth.name = "<init>") {v : Value} {M' : Mem} (hu : zUpd ph base M M' a j (tyF ci j) v) (hn : narrow (tyF ci j) v = v) (hfit : fits (tyF ci j) v = true) (hdg : decode cc pc = .ok (.putfield idx, 3))
    (kk : ∀ (H' : Heap) (locs' : List Loc), ZH G ph base H0 M' H' locs' → W p l e R s m args below meth c H' locs' cells slots Q (F0 m (pc + 3) ls rest)) : W p l e R s m args below meth c H locs cells slots Q (F0 m pc ls (v :: .ref (base + a) :: rest)) := by
  obtain ⟨hx, hb, -, hown, hts, -, hK, -⟩ := A
  obtain ⟨cell, q1, q2, q3, q4, q5⟩ := (hZ.1.2.2.1 a ha).obj ho
  obtain ⟨hS, hfc, kC, hkC, hkind⟩ := hK.1 ci _ (zc_cl ci hci)
  obtain ⟨cf, kf, fi, f, hi, hsl⟩ := hS j hj
  have hlay := hts _ (zc_in ci hci _ (u_in_lay hj))
  unfold u_lay at hlay
  rw [if_pos hfin] at hlay
  have hst := (u_facts hfc hkC (u_lays hts (zc_in ci hci) hj) hi).1
  have hcf : m.cls = cf := by
    obtain ⟨_, _, c', _, _, _, -, -, hf', -, -, -, hown2, -⟩ := Cond.laysFinal_spec hlay
    have e1 : c' = cf := by have := hi.symm.trans hf'; simp at this; exact this.1.symm
    rw [hdecl] at hown2
    rw [← e1]; exact Option.some.inj (hown.symm.trans hown2)
  have h6 := u_fits hfc hkC hkind (Or.inr hlay) hi (zc_ty ci hci j hj) hn hfit
  refine W.putFinK hx hb hown (hts _ hw) hi hst hcf hin2 (by rw [q2]; exact h6) q1 q3 (by rw [hsl]; exact k2_hasslot (q5 j hj)) rfl rfl hdg fun H' e1 e2 e3 => ?_
  rw [hsl] at e1 ⊢
  exact kk H' _ (hZ.put (hZ.1.putO ho hj (hK.apart hts hci) hu ha q1 e1 e2 e3) e2 e3)
end ZR
