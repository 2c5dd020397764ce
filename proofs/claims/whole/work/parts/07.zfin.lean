/-! ===== references that never change; constants of the shapes ===== -/
theorem isO_le {M M' : Mem} {a ci : Nat} (h : mz M ≤ mz M') (ho : isO M a ci) : isO M' a ci := ⟨ho.1, Nat.lt_of_lt_of_le ho.2 h⟩
theorem isA_le {M M' : Mem} {a : Nat} {t : FieldType} (h : mz M ≤ mz M') (ho : isA M a t) : isA M' a t := ⟨ho.1, Nat.lt_of_lt_of_le ho.2 h⟩
theorem isO_c {M : Mem} {a ci : Nat} (h : K0 ≤ mz M) (ha : a < 97) (hs : shp a = .inr ci) : isO M a ci := ⟨hs, Nat.lt_of_lt_of_le ha h⟩
theorem isA_c {M : Mem} {a n : Nat} {t : FieldType} (h : K0 ≤ mz M) (ha : a < 97) (hs : shp a = .inl (t, n)) : isA M a t := ⟨⟨n, hs⟩, Nat.lt_of_lt_of_le ha h⟩
theorem shp_big {a : Nat} (h : 97 ≤ a) : shp a = .inr 0 := by
  unfold shp
  rw [List.getD_eq_getElem?_getD, List.getElem?_eq_none (show shpL.length ≤ a from h)]
  rfl
def tL : (FieldType × Nat) ⊕ Nat → Bool | .inl (.long, _) => true | _ => false
def tI : (FieldType × Nat) ⊕ Nat → Bool | .inl (.int, _) => true | _ => false
def tZ : (FieldType × Nat) ⊕ Nat → Bool | .inl (.boolean, _) => true | _ => false
def tP : (FieldType × Nat) ⊕ Nat → Bool | .inl (.object n, _) => n == "LeaningIndex$Piece" | _ => false
theorem tL_of {a : Nat} (h : tL (shp a) = true) : shp a = .inl (.long, alen a) := by
  unfold alen
  cases hs : shp a with
  | inl q => obtain ⟨t, n⟩ := q; rw [hs] at h; cases t <;> simp [tL] at h ⊢
  | inr q => rw [hs] at h; simp [tL] at h
theorem tI_of {a : Nat} (h : tI (shp a) = true) : shp a = .inl (.int, alen a) := by
  unfold alen
  cases hs : shp a with
  | inl q => obtain ⟨t, n⟩ := q; rw [hs] at h; cases t <;> simp [tI] at h ⊢
  | inr q => rw [hs] at h; simp [tI] at h
theorem tZ_of {a : Nat} (h : tZ (shp a) = true) : shp a = .inl (.boolean, alen a) := by
  unfold alen
  cases hs : shp a with
  | inl q => obtain ⟨t, n⟩ := q; rw [hs] at h; cases t <;> simp [tZ] at h ⊢
  | inr q => rw [hs] at h; simp [tZ] at h
theorem tP_of {a : Nat} (h : tP (shp a) = true) : shp a = .inl (.object "LeaningIndex$Piece", alen a) := by
  unfold alen
  cases hs : shp a with
  | inl q => obtain ⟨t, n⟩ := q; rw [hs] at h; cases t <;> simp [tP] at h ⊢; exact h
  | inr q => rw [hs] at h; simp [tP] at h
def t2 : (FieldType × Nat) ⊕ Nat → Nat | .inr n => n | _ => 99
theorem shp_Tb : (List.range 97).all (fun t => !(t2 (shp t) == 2) || (tL (shp (t + 1)) && tZ (shp (t + 2)) && tL (shp (t + 3)) && tP (shp (t + 4)) && decide (t + 4 < 97))) = true := by decide +kernel
theorem shp_Wb : (List.range 97).all (fun t => !(t2 (shp t) == 3) || (tI (shp (t + 1)) && decide (t + 1 < 97))) = true := by decide +kernel
theorem shp_T (t : Nat) (ht : t < 97) (hs : shp t = .inr 2) : shp (t + 1) = .inl (.long, alen (t + 1)) ∧ shp (t + 2) = .inl (.boolean, alen (t + 2)) ∧ shp (t + 3) = .inl (.long, alen (t + 3)) ∧ shp (t + 4) = .inl (.object "LeaningIndex$Piece", alen (t + 4)) ∧ t + 4 < 97 := by
  have h := List.all_eq_true.mp shp_Tb t (List.mem_range.mpr ht)
  rw [hs] at h
  simp only [t2, beq_self_eq_true, Bool.not_true, Bool.false_or, Bool.and_eq_true, decide_eq_true_eq] at h
  exact ⟨tL_of h.1.1.1.1, tZ_of h.1.1.1.2, tL_of h.1.1.2, tP_of h.1.2, h.2⟩
theorem shp_W (t : Nat) (ht : t < 97) (hs : shp t = .inr 3) : shp (t + 1) = .inl (.int, alen (t + 1)) ∧ t + 1 < 97 := by
  have h := List.all_eq_true.mp shp_Wb t (List.mem_range.mpr ht)
  rw [hs] at h
  simp only [t2, beq_self_eq_true, Bool.not_true, Bool.false_or, Bool.and_eq_true, decide_eq_true_eq] at h
  exact ⟨tI_of h.1, h.2⟩
theorem shp_lt {t ci : Nat} (h : shp t = .inr ci) (hc : ci ≠ 0) : t < 97 := by
  rcases Nat.lt_or_ge t 97 with q | q
  · exact q
  · rw [shp_big q] at h
    cases h
    exact absurd rfl hc
theorem isA_T1 {M : Mem} {t : Nat} (h : K0 ≤ mz M) (ho : isO M t 2) : isA M (t + 1) .long := by
  have := shp_T t (shp_lt ho.1 (by decide)) ho.1
  exact ⟨⟨_, this.1⟩, Nat.lt_of_lt_of_le (Nat.lt_of_le_of_lt (by omega) this.2.2.2.2) h⟩
theorem isA_T2 {M : Mem} {t : Nat} (h : K0 ≤ mz M) (ho : isO M t 2) : isA M (t + 2) .boolean := by
  have := shp_T t (shp_lt ho.1 (by decide)) ho.1
  exact ⟨⟨_, this.2.1⟩, Nat.lt_of_lt_of_le (Nat.lt_of_le_of_lt (by omega) this.2.2.2.2) h⟩
theorem isA_T3 {M : Mem} {t : Nat} (h : K0 ≤ mz M) (ho : isO M t 2) : isA M (t + 3) .long := by
  have := shp_T t (shp_lt ho.1 (by decide)) ho.1
  exact ⟨⟨_, this.2.2.1⟩, Nat.lt_of_lt_of_le (Nat.lt_of_le_of_lt (by omega) this.2.2.2.2) h⟩
theorem isA_T4 {M : Mem} {t : Nat} (h : K0 ≤ mz M) (ho : isO M t 2) : isA M (t + 4) (.object "LeaningIndex$Piece") := by
  have := shp_T t (shp_lt ho.1 (by decide)) ho.1
  exact ⟨⟨_, this.2.2.2.1⟩, Nat.lt_of_lt_of_le this.2.2.2.2 h⟩
theorem isA_W1 {M : Mem} {t : Nat} (h : K0 ≤ mz M) (ho : isO M t 3) : isA M (t + 1) .int := by
  have := shp_W t (shp_lt ho.1 (by decide)) ho.1
  exact ⟨⟨_, this.1⟩, Nat.lt_of_lt_of_le this.2 h⟩
theorem zf2 {t j : Nat} (h : shp t = .inr 2) (hj : j < 4) : zfin t j = some (t + 1 + j) := by
  unfold zfin
  rw [if_neg (fun q => by rw [q] at h; cases h), h]
  simp [hj]
theorem zf2_0 {M : Mem} {t : Nat} (h : isO M t 2) : zfin t 0 = some (t + 1) := zf2 h.1 (by decide)
theorem zf2_1 {M : Mem} {t : Nat} (h : isO M t 2) : zfin t 1 = some (t + 2) := zf2 h.1 (by decide)
theorem zf2_2 {M : Mem} {t : Nat} (h : isO M t 2) : zfin t 2 = some (t + 3) := zf2 h.1 (by decide)
theorem zf2_3 {M : Mem} {t : Nat} (h : isO M t 2) : zfin t 3 = some (t + 4) := zf2 h.1 (by decide)
theorem zf3_0 {M : Mem} {t : Nat} (h : isO M t 3) : zfin t 0 = some (t + 1) := by
  unfold zfin
  rw [if_neg (fun q => by have := h.1; rw [q] at this; cases this), h.1]
  rfl
theorem zf4 {M : Mem} {t j : Nat} {r : Option Nat} (h : isO M t 4) (hj : zfin4.getD j none = r) : zfin t j = r := by
  unfold zfin
  rw [if_neg (fun q => by have := h.1; rw [q] at this; cases this), h.1]
  exact hj
theorem zf5 {M : Mem} {t j : Nat} {r : Option Nat} (h : isO M t 5) (hj : zfin5.getD j none = r) : zfin t j = r := by
  unfold zfin
  rw [if_neg (fun q => by have := h.1; rw [q] at this; cases this), h.1]
  exact hj
theorem zv_fin {base : Nat} {M : Mem} {a j b : Nat} {t : FieldType} (hf : zfin a j = some b) (hz : zval true base M a j t = vr base (zref true M a j)) : zval true base M a j t = .ref (base + b) := by
  rw [hz]; unfold zref; simp only [hf]; rfl
theorem zv_dyn {base : Nat} {M : Mem} {a j : Nat} {t : FieldType} (hf : zfin a j = none) (hz : zval true base M a j t = vr base (zref true M a j)) : zval true base M a j t = vr base (mR M a j) := by
  rw [hz]; unfold zref; simp only [hf]
theorem shp_P12 {a n : Nat} (h : shp a = .inl (.object "LeaningIndex$Piece", n)) : a ≠ 12 := by
  intro q; rw [q] at h; simp [shp, shpL] at h
theorem zfin_P {M : Mem} {a i : Nat} (h : isA M a (.object "LeaningIndex$Piece")) : zfin a i = none := by
  unfold zfin
  rw [if_neg (shp_P12 h.shp), h.shp]
theorem zref_P {M : Mem} {a i : Nat} (h : isA M a (.object "LeaningIndex$Piece")) : zref true M a i = mR M a i := by
  unfold zref; simp only [zfin_P h]
theorem zref_f {M : Mem} {a i : Nat} : zref false M a i = mR M a i := rfl
theorem cat_vr (base : Nat) (r : Option Nat) : (vr base r).category = 1 := by cases r <;> rfl
theorem narrow_vr (base : Nat) (r : Option Nat) (C : String) : narrow (.object C) (vr base r) = vr base r := by cases r <;> rfl
theorem fits_vr (base : Nat) (r : Option Nat) (C : String) : fits (.object C) (vr base r) = true := by cases r <;> rfl
theorem ZH.k0 {G : ZG} {base : Nat} {H0 : Heap} {M : Mem} {H : Heap} {locs : List Loc} (h : ZH G true base H0 M H locs) : K0 ≤ mz M := h.1.2.2.2 rfl
theorem nar_b {x : Int32} (h : x = 0 ∨ x = 1) : narrow .boolean (.int x) = .int x := by rcases h with rfl | rfl <;> rfl
theorem zfin_big {a j : Nat} (h : 97 ≤ a) : zfin a j = none := by
  unfold zfin
  rw [if_neg (by omega), shp_big h]
  rfl
theorem nofl : ∀ ci, ci < 6 → ∀ j, j < nF ci → tyF ci j ≠ .float := by
  have h : (List.range 6).all (fun ci => (List.range (nF ci)).all fun j => match tyF ci j with | .float => false | _ => true) = true := by decide +kernel
  intro ci hci j hj e
  have h2 := List.all_eq_true.mp (List.all_eq_true.mp h ci (List.mem_range.mpr hci)) j (List.mem_range.mpr hj)
  rw [e] at h2
  cases h2
/-! how the answers are told -/
def qV (Q : Mem → Prop) : Option Value → Mem → Prop := fun v M => v = none ∧ Q M
def qI (Q : Int32 → Mem → Prop) : Option Value → Mem → Prop := fun v M => ∃ r, v = some (.int r) ∧ Q r M
def qL (Q : Int64 → Mem → Prop) : Option Value → Mem → Prop := fun v M => ∃ r, v = some (.long r) ∧ Q r M
def qR (base : Nat) (Q : Option Nat → Mem → Prop) : Option Value → Mem → Prop := fun v M => ∃ r, v = some (vr base r) ∧ Q r M
section ZF
variable {p : Program} {l : Launch} {e : Env} {R : Room} {s : State} {m : MethodId} {args : Array Value} {below : List Frame} {meth : Method} {c : Code} {H : Heap} {locs : List Loc} {cells slots : Nat} {Q : State → Prop}
variable {H0 : Heap} {G : ZG} {ph : Bool} {base z0 nL fr lo : Nat} {cc : ByteArray} {own : String} {M : Mem} {pc : Nat} {ls : Array Slot} {rest st0 : List Value} {d0 : Drawn} {lv : List (Nat × Value)}
theorem z_objInit (A : Amb p R s m args meth c G base z0 cc own nL fr lo) {a idx : Nat} (hw : Cond.methodLink own idx objectInit ∈ W0) (hl : lv_has ls nL lv) (hd : decode cc pc = .ok (.invokespecial idx, 3)) (hf : 1 ≤ fr) (hlo : (rest.map fun v => v.category).sum + 12 ≤ lo)
    (kk : W p l e R s m args below meth c H locs cells slots Q (F0 m (pc + 3) ls rest)) : W p l e R s m args below meth c H locs cells slots Q (F0 m pc ls (.ref a :: rest)) := by
  obtain ⟨hx, hb, hml, hown, hts, -, -, -, -, -, -, hf1, hf2⟩ := A
  refine W.objInit hx hb hown (hts _ hw) (hts _ k_im_objectInit) (hts _ k_co_objectInit) rfl (by rw [hml]; exact hl.1) rfl hd (Nat.le_trans hf hf1) ?_ kk
  show 2 * 0 + _ + 12 ≤ _
  omega
theorem z_aaldP (A : Amb p R s m args meth c G base z0 cc own nL fr lo) (hZ : ZH G true base H0 M H locs) {a : Nat} {i : Int32} (ho : isA M a (.object "LeaningIndex$Piece")) (hin : inb i (alen a)) (hdg : decode cc pc = .ok (.aaload, 1))
    (kk : W p l e R s m args below meth c H locs cells slots Q (F0 m (pc + 1) ls (vr base (mR M a i.toNatClampNeg) :: rest))) : W p l e R s m args below meth c H locs cells slots Q (F0 m pc ls (.int i :: .ref (base + a) :: rest)) :=
  z_aald A hZ 3 rfl ho hin hdg (by rw [zref_P ho]; exact kk)
theorem z_aaldT (A : Amb p R s m args meth c G base z0 cc own nL fr lo) (hZ : ZH G true base H0 M H locs) {a : Nat} {i : Int32} (ho : isA M a (.object "LeaningIndex$Tier")) (hin : inb i (alen a)) (hdg : decode cc pc = .ok (.aaload, 1))
    (kk : W p l e R s m args below meth c H locs cells slots Q (F0 m (pc + 1) ls (vr base (zref true M a i.toNatClampNeg) :: rest))) : W p l e R s m args below meth c H locs cells slots Q (F0 m pc ls (.int i :: .ref (base + a) :: rest)) :=
  z_aald A hZ 4 rfl ho hin hdg kk
end ZF
theorem cat_r (a : Nat) : (Value.ref a).category = 1 := rfl
theorem cat_i (a : Int32) : (Value.int a).category = 1 := rfl
theorem cat_l (a : Int64) : (Value.long a).category = 2 := rfl
theorem cat_d (a : UInt64) : (Value.double a).category = 2 := rfl
