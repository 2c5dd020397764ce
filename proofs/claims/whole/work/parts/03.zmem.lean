/-! ===== the pure memory: what each cell of ours holds, by its place (its address less the base) ===== -/
abbrev Mem : Type := (Nat → Nat → Int32) × (Nat → Nat → Int64) × (Nat → Nat → UInt64) × (Nat → Nat → Option Nat) × Nat
def mI (M : Mem) (a j : Nat) : Int32 := M.1 a j
def mL (M : Mem) (a j : Nat) : Int64 := M.2.1 a j
def mD (M : Mem) (a j : Nat) : UInt64 := M.2.2.1 a j
def mR (M : Mem) (a j : Nat) : Option Nat := M.2.2.2.1 a j
def mz (M : Mem) : Nat := M.2.2.2.2
def up2 {α : Type} (f : Nat → Nat → α) (a j : Nat) (v : α) : Nat → Nat → α := fun b k => if b = a ∧ k = j then v else f b k
def cl1 {α : Type} (f : Nat → Nat → α) (a : Nat) (v : α) : Nat → Nat → α := fun b k => if b = a then v else f b k
def sI (M : Mem) (a j : Nat) (v : Int32) : Mem := (up2 M.1 a j v, M.2.1, M.2.2.1, M.2.2.2.1, M.2.2.2.2)
def sL (M : Mem) (a j : Nat) (v : Int64) : Mem := (M.1, up2 M.2.1 a j v, M.2.2.1, M.2.2.2.1, M.2.2.2.2)
def sD (M : Mem) (a j : Nat) (v : UInt64) : Mem := (M.1, M.2.1, up2 M.2.2.1 a j v, M.2.2.2.1, M.2.2.2.2)
def sR (M : Mem) (a j : Nat) (v : Option Nat) : Mem := (M.1, M.2.1, M.2.2.1, up2 M.2.2.2.1 a j v, M.2.2.2.2)
/-- a new cell, blank -/
def nw (M : Mem) : Mem := (cl1 M.1 (mz M) 0, cl1 M.2.1 (mz M) 0, cl1 M.2.2.1 (mz M) 0, cl1 M.2.2.2.1 (mz M) none, mz M + 1)
/-- n longs of the cell a from sp on, copied to the cell b from dp on -/
def cpL (M : Mem) (a sp b dp n : Nat) : Mem := (M.1, (fun c k => if c = b ∧ (dp ≤ k ∧ k < dp + n) then M.2.1 a (sp + (k - dp)) else M.2.1 c k), M.2.2.1, M.2.2.2.1, M.2.2.2.2)
theorem mI_sI (M : Mem) (a j : Nat) (v : Int32) (b k : Nat) : mI (sI M a j v) b k = if b = a ∧ k = j then v else mI M b k := rfl
theorem mI_sL (M : Mem) (a j : Nat) (v : Int64) (b k : Nat) : mI (sL M a j v) b k = mI M b k := rfl
theorem mI_sD (M : Mem) (a j : Nat) (v : UInt64) (b k : Nat) : mI (sD M a j v) b k = mI M b k := rfl
theorem mI_sR (M : Mem) (a j : Nat) (v : Option Nat) (b k : Nat) : mI (sR M a j v) b k = mI M b k := rfl
theorem mI_nw (M : Mem) (b k : Nat) : mI (nw M) b k = if b = mz M then 0 else mI M b k := rfl
theorem mI_cpL (M : Mem) (a sp c dp n b k : Nat) : mI (cpL M a sp c dp n) b k = mI M b k := rfl
theorem mL_sI (M : Mem) (a j : Nat) (v : Int32) (b k : Nat) : mL (sI M a j v) b k = mL M b k := rfl
theorem mL_sL (M : Mem) (a j : Nat) (v : Int64) (b k : Nat) : mL (sL M a j v) b k = if b = a ∧ k = j then v else mL M b k := rfl
theorem mL_sD (M : Mem) (a j : Nat) (v : UInt64) (b k : Nat) : mL (sD M a j v) b k = mL M b k := rfl
theorem mL_sR (M : Mem) (a j : Nat) (v : Option Nat) (b k : Nat) : mL (sR M a j v) b k = mL M b k := rfl
theorem mL_nw (M : Mem) (b k : Nat) : mL (nw M) b k = if b = mz M then 0 else mL M b k := rfl
theorem mL_cpL (M : Mem) (a sp c dp n b k : Nat) : mL (cpL M a sp c dp n) b k = if b = c ∧ (dp ≤ k ∧ k < dp + n) then mL M a (sp + (k - dp)) else mL M b k := rfl
theorem mD_sI (M : Mem) (a j : Nat) (v : Int32) (b k : Nat) : mD (sI M a j v) b k = mD M b k := rfl
theorem mD_sL (M : Mem) (a j : Nat) (v : Int64) (b k : Nat) : mD (sL M a j v) b k = mD M b k := rfl
theorem mD_sD (M : Mem) (a j : Nat) (v : UInt64) (b k : Nat) : mD (sD M a j v) b k = if b = a ∧ k = j then v else mD M b k := rfl
theorem mD_sR (M : Mem) (a j : Nat) (v : Option Nat) (b k : Nat) : mD (sR M a j v) b k = mD M b k := rfl
theorem mD_nw (M : Mem) (b k : Nat) : mD (nw M) b k = if b = mz M then 0 else mD M b k := rfl
theorem mD_cpL (M : Mem) (a sp c dp n b k : Nat) : mD (cpL M a sp c dp n) b k = mD M b k := rfl
theorem mR_sI (M : Mem) (a j : Nat) (v : Int32) (b k : Nat) : mR (sI M a j v) b k = mR M b k := rfl
theorem mR_sL (M : Mem) (a j : Nat) (v : Int64) (b k : Nat) : mR (sL M a j v) b k = mR M b k := rfl
theorem mR_sD (M : Mem) (a j : Nat) (v : UInt64) (b k : Nat) : mR (sD M a j v) b k = mR M b k := rfl
theorem mR_sR (M : Mem) (a j : Nat) (v : Option Nat) (b k : Nat) : mR (sR M a j v) b k = if b = a ∧ k = j then v else mR M b k := rfl
theorem mR_nw (M : Mem) (b k : Nat) : mR (nw M) b k = if b = mz M then none else mR M b k := rfl
theorem mR_cpL (M : Mem) (a sp c dp n b k : Nat) : mR (cpL M a sp c dp n) b k = mR M b k := rfl
theorem mz_sI (M : Mem) (a j : Nat) (v : Int32) : mz (sI M a j v) = mz M := rfl
theorem mz_sL (M : Mem) (a j : Nat) (v : Int64) : mz (sL M a j v) = mz M := rfl
theorem mz_sD (M : Mem) (a j : Nat) (v : UInt64) : mz (sD M a j v) = mz M := rfl
theorem mz_sR (M : Mem) (a j : Nat) (v : Option Nat) : mz (sR M a j v) = mz M := rfl
theorem mz_nw (M : Mem) : mz (nw M) = mz M + 1 := rfl
theorem mz_cpL (M : Mem) (a sp c dp n : Nat) : mz (cpL M a sp c dp n) = mz M := rfl
/-- what lies at a place: an array of a type and a length, or an object of a class; behind all others: pieces -/
def shpL : List ((FieldType × Nat) ⊕ Nat) := [.inr 4, .inl (.long, 300), .inr 2, .inl (.long, 600), .inl (.boolean, 600), .inl (.long, 300), .inl (.object "LeaningIndex$Piece", 600), .inr 2, .inl (.long, 600), .inl (.boolean, 600), .inl (.long, 300), .inl (.object "LeaningIndex$Piece", 600), .inl (.object "LeaningIndex$Tier", 10), .inr 3, .inl (.int, 34), .inr 3, .inl (.int, 34), .inr 1, .inl (.long, 600), .inr 2, .inl (.long, 600), .inl (.boolean, 600), .inl (.long, 0), .inl (.object "LeaningIndex$Piece", 600), .inr 2, .inl (.long, 300), .inl (.boolean, 300), .inl (.long, 0), .inl (.object "LeaningIndex$Piece", 300), .inr 2, .inl (.long, 150), .inl (.boolean, 150), .inl (.long, 0), .inl (.object "LeaningIndex$Piece", 150), .inr 2, .inl (.long, 75), .inl (.boolean, 75), .inl (.long, 0), .inl (.object "LeaningIndex$Piece", 75), .inr 2, .inl (.long, 38), .inl (.boolean, 38), .inl (.long, 0), .inl (.object "LeaningIndex$Piece", 38), .inr 2, .inl (.long, 19), .inl (.boolean, 19), .inl (.long, 0), .inl (.object "LeaningIndex$Piece", 19), .inr 2, .inl (.long, 10), .inl (.boolean, 10), .inl (.long, 0), .inl (.object "LeaningIndex$Piece", 10), .inr 2, .inl (.long, 5), .inl (.boolean, 5), .inl (.long, 0), .inl (.object "LeaningIndex$Piece", 5), .inr 2, .inl (.long, 3), .inl (.boolean, 3), .inl (.long, 0), .inl (.object "LeaningIndex$Piece", 3), .inr 2, .inl (.long, 2), .inl (.boolean, 2), .inl (.long, 0), .inl (.object "LeaningIndex$Piece", 2), .inr 5, .inl (.long, 300), .inl (.long, 5000), .inl (.int, 20), .inl (.int, 20), .inl (.int, 10000), .inl (.int, 10000), .inl (.int, 10000), .inl (.int, 10000), .inl (.int, 10000), .inl (.long, 10000), .inl (.long, 10000), .inl (.long, 10000), .inl (.long, 12000), .inl (.long, 160000), .inl (.boolean, 12000), .inl (.int, 5000), .inl (.int, 5000), .inl (.int, 5000), .inl (.int, 5000), .inl (.long, 5000), .inl (.long, 5000), .inl (.long, 5000), .inl (.long, 6000), .inl (.long, 80000), .inl (.boolean, 6000), .inl (.int, 64), .inl (.int, 64)]
def shp (k : Nat) : (FieldType × Nat) ⊕ Nat := shpL.getD k (.inr 0)
def K0 : Nat := 97
def ZMAX : Nat := 6000
def nF (ci : Nat) : Nat := match ci with | 0 => 11 | 1 => 5 | 2 => 7 | 3 => 7 | 4 => 14 | 5 => 47 | _ => 0
def tyF (ci : Nat) : Nat → FieldType := match ci with | 0 => tyX0 | 1 => tyX1 | 2 => tyX2 | 3 => tyX3 | 4 => tyX4 | _ => tyX5
def TF (ci : Nat) : u_T := match ci with | 0 => TX0 | 1 => TX1 | 2 => TX2 | 3 => TX3 | 4 => TX4 | _ => TX5
def RF (ci : Nat) : String := match ci with | 0 => RX0 | 1 => RX1 | 2 => RX2 | 3 => RX3 | 4 => RX4 | _ => RX5
/-- references that never change, by place and number (fields; the row of tiers) -/
def zfin4 : List (Option Nat) := [some 1, none, none, none, none, some 12, none, none, none, none, some 13, some 15, some 17, some 18]
def zfin5 : List (Option Nat) := [some 70, none, none, some 71, none, none, none, none, none, none, some 72, some 73, some 74, some 75, some 76, some 77, some 78, some 79, some 80, some 81, some 82, some 83, some 84, none, none, none, none, some 85, some 86, some 87, some 88, some 89, some 90, some 91, some 92, some 93, some 94, some 95, some 96, none, none, none, none, none, none, none, none]
def zfin (k j : Nat) : Option Nat := if k = 12 then (if j < 10 then some (19 + 5 * j) else none) else match shp k with
  | .inr 2 => if j < 4 then some (k + 1 + j) else none
  | .inr 3 => if j = 0 then some (k + 1) else none
  | .inr 4 => zfin4.getD j none
  | .inr 5 => zfin5.getD j none
  | _ => none
def vr (base : Nat) (r : Option Nat) : Value := match r with
  | none => .null
  | some a => .ref (base + a)
theorem vr_or (base : Nat) (r : Option Nat) : vr base r = .null ∨ ∃ a, vr base r = .ref a := by
  cases r with
  | none => exact Or.inl rfl
  | some a => exact Or.inr ⟨_, rfl⟩
def zref (ph : Bool) (M : Mem) (k j : Nat) : Option Nat := match ph with
  | true => (match zfin k j with | some a => some a | none => mR M k j)
  | false => mR M k j
def zval (ph : Bool) (base : Nat) (M : Mem) (k j : Nat) (t : FieldType) : Value := match t with
  | .long => .long (mL M k j)
  | .double => .double (mD M k j)
  | .object _ => vr base (zref ph M k j)
  | .array _ => vr base (zref ph M k j)
  | _ => .int (mI M k j)
abbrev ZG : Type := (Nat → ClassId) × (Nat → Nat → Nat) × (FieldType → ClassId)
def zOK (G : ZG) (ph : Bool) (base : Nat) (M : Mem) (H : Heap) (k : Nat) : Prop := match shp k with
  | .inl q => H[base + k]? = some (arrV (G.2.2 q.1) q.2 (fun j => zval ph base M k j q.1))
  | .inr ci => ∃ cell : Cell, H[base + k]? = some cell ∧ cell.cls = G.1 ci ∧ cell.vm = .none ∧ cell.slots.size = nF ci ∧ ∀ j, j < nF ci → cell.slots[G.2.1 ci j]? = some (zval ph base M k j (tyF ci j))
def Rep (G : ZG) (ph : Bool) (base : Nat) (M : Mem) (H : Heap) : Prop := H.size = base + mz M ∧ mz M ≤ ZMAX ∧ (∀ k, k < mz M → zOK G ph base M H k) ∧ (ph = true → K0 ≤ mz M)
theorem zOK.arr {G : ZG} {ph : Bool} {base : Nat} {M : Mem} {H : Heap} {k n : Nat} {t : FieldType} (h : zOK G ph base M H k) (hs : shp k = .inl (t, n)) : H[base + k]? = some (arrV (G.2.2 t) n (fun j => zval ph base M k j t)) := by
  unfold zOK at h; rw [hs] at h; exact h
theorem zOK.obj {G : ZG} {ph : Bool} {base : Nat} {M : Mem} {H : Heap} {k ci : Nat} (h : zOK G ph base M H k) (hs : shp k = .inr ci) : ∃ cell : Cell, H[base + k]? = some cell ∧ cell.cls = G.1 ci ∧ cell.vm = .none ∧ cell.slots.size = nF ci ∧ ∀ j, j < nF ci → cell.slots[G.2.1 ci j]? = some (zval ph base M k j (tyF ci j)) := by
  unfold zOK at h; rw [hs] at h; exact h
theorem zOK.ofArr {G : ZG} {ph : Bool} {base : Nat} {M : Mem} {H : Heap} {k n : Nat} {t : FieldType} (hs : shp k = .inl (t, n)) (h : H[base + k]? = some (arrV (G.2.2 t) n (fun j => zval ph base M k j t))) : zOK G ph base M H k := by
  unfold zOK; rw [hs]; exact h
theorem zOK.ofObj {G : ZG} {ph : Bool} {base : Nat} {M : Mem} {H : Heap} {k ci : Nat} (hs : shp k = .inr ci) (h : ∃ cell : Cell, H[base + k]? = some cell ∧ cell.cls = G.1 ci ∧ cell.vm = .none ∧ cell.slots.size = nF ci ∧ ∀ j, j < nF ci → cell.slots[G.2.1 ci j]? = some (zval ph base M k j (tyF ci j))) : zOK G ph base M H k := by
  unfold zOK; rw [hs]; exact h
theorem zOK.kept {G : ZG} {ph : Bool} {base : Nat} {M M' : Mem} {H H' : Heap} {k : Nat} (h : zOK G ph base M H k) (ho : H'[base + k]? = H[base + k]?) (hv : ∀ j t, zval ph base M' k j t = zval ph base M k j t) : zOK G ph base M' H' k := by
  unfold zOK at h ⊢
  cases hs : shp k with
  | inl q => simp only [hs] at h ⊢; rw [ho, h]; simp only [hv]
  | inr ci =>
    simp only [hs] at h ⊢
    obtain ⟨cell, a, b, c, d, e⟩ := h
    exact ⟨cell, by rw [ho]; exact a, b, c, d, fun j hj => by rw [hv]; exact e j hj⟩
theorem Rep.upd {G : ZG} {ph : Bool} {base : Nat} {M M' : Mem} {H H' : Heap} {a : Nat} (h : Rep G ph base M H) (hz : mz M' = mz M) (hv : ∀ k j t, k ≠ a → zval ph base M' k j t = zval ph base M k j t) (hs : H'.size = H.size) (ho : ∀ q : Nat, q ≠ base + a → H'[q]? = H[q]?) (hk : zOK G ph base M' H' a) : Rep G ph base M' H' := by
  refine ⟨by rw [hs, hz]; exact h.1, by rw [hz]; exact h.2.1, fun k hk2 => ?_, by rw [hz]; exact h.2.2.2⟩
  by_cases e : k = a
  · rw [e]; exact hk
  · exact (h.2.2.1 k (by rw [← hz]; exact hk2)).kept (ho _ (by omega)) (fun j t => hv k j t e)
/-- a write of one slot -/
def zUpd (ph : Bool) (base : Nat) (M M' : Mem) (a i : Nat) (t : FieldType) (v : Value) : Prop := mz M' = mz M ∧ (∀ k j t', ¬ (k = a ∧ j = i) → zval ph base M' k j t' = zval ph base M k j t') ∧ zval ph base M' a i t = v
theorem zUpd_I {ph : Bool} {base : Nat} {M : Mem} {a i : Nat} {x : Int32} : zUpd ph base M (sI M a i x) a i .int (.int x) :=
  ⟨rfl, fun k j t' h => by unfold zval; cases t' <;> simp [mL_sI, mD_sI, mI_sI, h, zref, mR_sI], by simp [zval, mI_sI]⟩
theorem zUpd_Z {ph : Bool} {base : Nat} {M : Mem} {a i : Nat} {x : Int32} : zUpd ph base M (sI M a i x) a i .boolean (.int x) :=
  ⟨rfl, fun k j t' h => by unfold zval; cases t' <;> simp [mL_sI, mD_sI, mI_sI, h, zref, mR_sI], by simp [zval, mI_sI]⟩
theorem zUpd_L {ph : Bool} {base : Nat} {M : Mem} {a i : Nat} {x : Int64} : zUpd ph base M (sL M a i x) a i .long (.long x) :=
  ⟨rfl, fun k j t' h => by unfold zval; cases t' <;> simp [mL_sL, mD_sL, mI_sL, h, zref, mR_sL], by simp [zval, mL_sL]⟩
theorem zUpd_D {ph : Bool} {base : Nat} {M : Mem} {a i : Nat} {x : UInt64} : zUpd ph base M (sD M a i x) a i .double (.double x) :=
  ⟨rfl, fun k j t' h => by unfold zval; cases t' <;> simp [mL_sD, mD_sD, mI_sD, h, zref, mR_sD], by simp [zval, mD_sD]⟩
theorem zref_sR {ph : Bool} {M : Mem} {a i k j : Nat} {r : Option Nat} (h : ¬ (k = a ∧ j = i)) : zref ph (sR M a i r) k j = zref ph M k j := by
  unfold zref; cases ph <;> simp [mR_sR, h]
theorem zref_sR_self {ph : Bool} {M : Mem} {a i : Nat} {r : Option Nat} (h : ph = true → zfin a i = none) : zref ph (sR M a i r) a i = r := by
  unfold zref; cases ph with
  | true => simp [mR_sR, h rfl]
  | false => simp [mR_sR]
theorem zUpd_R {ph : Bool} {base : Nat} {M : Mem} {a i : Nat} {r : Option Nat} {C : String} (h : ph = true → zfin a i = none) : zUpd ph base M (sR M a i r) a i (.object C) (vr base r) :=
  ⟨rfl, fun k j t' h => by unfold zval; cases t' <;> simp [mL_sR, mD_sR, mI_sR, zref_sR h], by simp [zval, zref_sR_self h]⟩
theorem zUpd_A {ph : Bool} {base : Nat} {M : Mem} {a i : Nat} {r : Option Nat} {t : FieldType} (h : ph = true → zfin a i = none) : zUpd ph base M (sR M a i r) a i (.array t) (vr base r) :=
  ⟨rfl, fun k j t' h => by unfold zval; cases t' <;> simp [mL_sR, mD_sR, mI_sR, zref_sR h], by simp [zval, zref_sR_self h]⟩
theorem Rep.putO {G : ZG} {ph : Bool} {base : Nat} {M M' : Mem} {H H' : Heap} {a i ci : Nat} {v : Value} {cell : Cell} (h : Rep G ph base M H) (ha : shp a = .inr ci) (hi : i < nF ci) (hap : ∀ x y, x < nF ci → y < nF ci → x ≠ y → G.2.1 ci x ≠ G.2.1 ci y) (hu : zUpd ph base M M' a i (tyF ci i) v) (haz : a < mz M) (hc : H[base + a]? = some cell) (e1 : H'[base + a]? = some (cell.setSlot (G.2.1 ci i) v)) (hs : H'.size = H.size) (ho : ∀ q : Nat, q ≠ base + a → H'[q]? = H[q]?) : Rep G ph base M' H' := by
  obtain ⟨u1, u2, u3⟩ := hu
  refine h.upd u1 (fun k j t hk => u2 k j t (fun q => hk q.1)) hs ho ?_
  obtain ⟨c0, q1, q2, q3, q4, q5⟩ := (h.2.2.1 a haz).obj ha
  cases hc.symm.trans q1
  refine zOK.ofObj ha ⟨_, e1, q2, q3, by rw [k2_slotsz]; exact q4, fun j hj => ?_⟩
  by_cases hji : j = i
  · subst hji
    rw [Cell.slots_setSlot_self _ (k2_hasslot (q5 j hj)), u3]
  · rw [slot_ne _ _ (hap i j hi hj (Ne.symm hji)), q5 j hj, u2 a j _ (fun q => hji q.2)]
theorem Rep.putA {G : ZG} {ph : Bool} {base : Nat} {M M' : Mem} {H H' : Heap} {a i n : Nat} {t : FieldType} {v : Value} (h : Rep G ph base M H) (ha : shp a = .inl (t, n)) (hu : zUpd ph base M M' a i t v) (e1 : H'[base + a]? = some ((arrV (G.2.2 t) n (fun j => zval ph base M a j t)).setSlot i v)) (hs : H'.size = H.size) (ho : ∀ q : Nat, q ≠ base + a → H'[q]? = H[q]?) : Rep G ph base M' H' := by
  obtain ⟨u1, u2, u3⟩ := hu
  refine h.upd u1 (fun k j t hk => u2 k j t (fun q => hk q.1)) hs ho ?_
  refine zOK.ofArr ha ?_
  rw [e1, arrV_store]
  congr 2
  funext j
  unfold updV
  by_cases hj : j = i
  · rw [if_pos hj, hj, u3]
  · rw [if_neg hj, u2 a j _ (fun q => hj q.2)]
theorem zref_nw {ph : Bool} {M : Mem} {k j : Nat} (h : k ≠ mz M) : zref ph (nw M) k j = zref ph M k j := by
  unfold zref; cases ph <;> simp [mR_nw, h]
theorem zval_nw {ph : Bool} {base : Nat} {M : Mem} {k j : Nat} {t : FieldType} (h : k ≠ mz M) : zval ph base (nw M) k j t = zval ph base M k j t := by
  unfold zval; cases t <;> simp [mL_nw, mD_nw, mI_nw, h, zref_nw h]
theorem zval_nw_self {ph : Bool} {base : Nat} {M : Mem} {j : Nat} {t : FieldType} (h : ph = true → zfin (mz M) j = none) (ht : t ≠ .float) : zval ph base (nw M) (mz M) j t = defaultValue t := by
  have hr : zref ph (nw M) (mz M) j = none := by
    unfold zref; cases ph with
    | true => simp [h rfl, mR_nw]
    | false => simp [mR_nw]
  unfold zval; cases t <;> simp [mL_nw, mD_nw, mI_nw, hr, vr, defaultValue] at ht ⊢
theorem Rep.new {G : ZG} {ph : Bool} {base : Nat} {M : Mem} {H H' : Heap} (h : Rep G ph base M H) (hs : H'.size = H.size + 1) (ho : ∀ q : Nat, q < H.size → H'[q]? = H[q]?) (hm : mz M < ZMAX) (hk : zOK G ph base (nw M) H' (mz M)) : Rep G ph base (nw M) H' := by
  refine ⟨by rw [hs, mz_nw, h.1]; omega, by rw [mz_nw]; omega, fun k hk2 => ?_, fun q => by rw [mz_nw]; exact Nat.le_succ_of_le (h.2.2.2 q)⟩
  rw [mz_nw] at hk2
  by_cases e : k = mz M
  · rw [e]; exact hk
  · exact (h.2.2.1 k (by omega)).kept (ho _ (by rw [h.1]; omega)) (fun j t => zval_nw e)
/-! the slots of all cells up to a place -/
def csz (k : Nat) : Nat := match shp k with
  | .inl q => q.2
  | .inr ci => nF ci
def SS (n : Nat) : Nat := ((List.range n).map csz).sum
theorem SS_succ (n : Nat) : SS (n + 1) = SS n + csz n := by simp [SS, List.range_succ]
theorem SS_mono {a b : Nat} (h : a ≤ b) : SS a ≤ SS b := by
  induction b with
  | zero => rw [Nat.le_zero.mp h]; exact Nat.le_refl _
  | succ b ih =>
    rcases Nat.lt_or_ge a (b + 1) with q | q
    · rw [SS_succ]; exact Nat.le_trans (ih (by omega)) (Nat.le_add_right _ _)
    · rw [show a = b + 1 by omega]; exact Nat.le_refl _
theorem zOK.sz {G : ZG} {ph : Bool} {base : Nat} {M : Mem} {H : Heap} {k : Nat} (h : zOK G ph base M H k) : ∃ cell : Cell, H[base + k]? = some cell ∧ cell.slots.size = csz k := by
  unfold zOK at h; unfold csz
  cases hs : shp k with
  | inl q => simp only [hs] at h ⊢; exact ⟨_, h, by rw [arrV_size]⟩
  | inr ci => simp only [hs] at h ⊢; obtain ⟨cell, a, -, -, d, -⟩ := h; exact ⟨cell, a, d⟩
theorem Rep.slots {G : ZG} {ph : Bool} {base : Nat} {M : Mem} {H : Heap} (h : Rep G ph base M H) : ∀ d z : Nat, z + d = mz M → ((H.toList.drop (base + z)).map (·.slots.size)).sum + SS z = SS (mz M) := by
  intro d
  induction d with
  | zero =>
    intro z hz
    have hz' : z = mz M := by omega
    rw [hz', List.drop_of_length_le (by rw [Array.length_toList, h.1]; omega)]
    simp
  | succ d ih =>
    intro z hz
    obtain ⟨cell, hc, hsz⟩ := (h.2.2.1 z (by omega)).sz
    have hlt : base + z < H.toList.length := by rw [Array.length_toList, h.1]; omega
    have he : H.toList[base + z] = cell := by
      have := (Array.getElem?_eq_some_iff.mp hc).2
      rw [Array.getElem_toList]; exact this
    rw [List.drop_eq_getElem_cons hlt, List.map_cons, List.sum_cons, he, hsz]
    have := ih (z + 1) (by omega)
    rw [SS_succ] at this
    rw [show base + z + 1 = base + (z + 1) by omega]
    omega
