/-! ===== the model's replace ===== -/
/-- a piece that is kept aside -/
def KP (M : Im) (k at_ : Nat) (q : Pc) : Prop :=
  (gI M 85 k = pki q ∧ gI M 86 k = (pks q).length ∧ gI M 87 k = pma q ∧ gI M 88 k = (plt q).length) ∧
  (gL M 89 k = (pln q).1 ∧ gL M 90 k = (pln q).2.1 ∧ gL M 91 k = (pln q).2.2) ∧
  (∀ i, i < (pks q).length → gL M 92 (at_ + i) = kf q i ∧ gI M 94 (at_ + i) = df q i) ∧ (∀ i, i < (plt q).length → gL M 93 (16 * k + i) = tf q i)
def AgK (b : Nat) : Prop := 85 ≤ b ∧ b ≤ 94
theorem KP.frame {M M' : Im} {k at_ : Nat} {q : Pc} (h : KP M k at_ q) (h1 : ∀ b, 85 ≤ b → b ≤ 88 → gI M' b k = gI M b k) (h2 : ∀ b, 89 ≤ b → b ≤ 91 → gL M' b k = gL M b k) (h3 : ∀ i, i < (pks q).length → gL M' 92 (at_ + i) = gL M 92 (at_ + i) ∧ gI M' 94 (at_ + i) = gI M 94 (at_ + i)) (h4 : ∀ i, i < (plt q).length → gL M' 93 (16 * k + i) = gL M 93 (16 * k + i)) : KP M' k at_ q := by
  obtain ⟨⟨a0, a1, a2, a3⟩, ⟨a6, a7, a8⟩, b1, b2⟩ := h
  refine ⟨⟨?_, ?_, ?_, ?_⟩, ⟨?_, ?_, ?_⟩, fun i hi => ?_, fun i hi => ?_⟩
  · rw [h1 85 (by omega) (by omega)]; exact a0
  · rw [h1 86 (by omega) (by omega)]; exact a1
  · rw [h1 87 (by omega) (by omega)]; exact a2
  · rw [h1 88 (by omega) (by omega)]; exact a3
  · rw [h2 89 (by omega) (by omega)]; exact a6
  · rw [h2 90 (by omega) (by omega)]; exact a7
  · rw [h2 91 (by omega) (by omega)]; exact a8
  · rw [(h3 i hi).1, (h3 i hi).2]; exact b1 i hi
  · rw [h4 i hi]; exact b2 i hi
theorem d_replace_128 {o k : Nat} {x1 x2 x3 x4 x5 : Int} {q : Pc} {Q : Im → Prop} {K172 : Nat → Int → Int → Int → Int → Int → Int → Int → Im → Prop} (ho : o < 10000) (hk5 : k < 5000) (hll : (plt q).length ≤ 16) :
    ∀ (d i : Nat) {M : Im}, i + d = (plt q).length → gI M 78 o = (plt q).length → (∀ j, j < (plt q).length → gL M 83 (16 * o + j) = tf q j) → (∀ M', Ag (· = 93) M M' → (∀ j, i ≤ j → j < (plt q).length → gL M' 93 (16 * k + j) = tf q j) → (∀ j, j < 16 * k + i → gL M' 93 j = gL M 93 j) → K172 69 x1 x2 x3 x4 x5 k o M') →
    sp_X5_replace_128 (d + 1) 69 x1 x2 x3 x4 x5 k o i M Q K172
  | 0, i, M, h, h78, hr, hQ => by
    have w78 : alen 78 = 10000 := rfl
    unfold sp_X5_replace_128
    rw [show ((o : Nat) : Int).toNat = o by omega, h78, w78]
    exact ⟨by omega, fun _ => hQ M Ag.refl (fun j h1 h2 => by omega) (fun _ _ => rfl), fun h => by omega⟩
  | d + 1, i, M, h, h78, hr, hQ => by
    have w78 : alen 78 = 10000 := rfl
    have w83 : alen 83 = 160000 := rfl
    have w93 : alen 93 = 80000 := rfl
    unfold sp_X5_replace_128
    rw [show ((o : Nat) : Int).toNat = o by omega, h78, w78, w83, w93, show ((16 : Int) * ((o : Nat) : Int) + ((i : Nat) : Int)).toNat = 16 * o + i by omega, show ((16 : Int) * ((k : Nat) : Int) + ((i : Nat) : Int)).toNat = 16 * k + i by omega, hr i (by omega)]
    refine ⟨by omega, fun h => by omega, fun _ => ⟨by omega, by omega, by omega, by omega, by omega, by omega, by omega, by omega, by omega, by omega, ?_⟩⟩
    rintro M9 rfl
    refine ⟨by omega, ?_⟩
    rintro i10 rfl
    rw [show (i : Int) + 1 = ((i + 1 : Nat) : Int) by omega]
    have g : Ag (· = 93) M (pL M 93 (16 * k + i) (tf q i)) := (Ag.refl (S := (· = 93))).pL rfl
    refine d_replace_128 ho hk5 hll d (i + 1) (by omega) h78 (fun j hj => by rw [g.L (by omega)]; exact hr j hj) fun M' g' h1 h2 => hQ M' (g.trans g') (fun j j1 j2 => ?_) (fun j hj => ?_)
    · by_cases e : j = i
      · subst e
        rw [h2 (16 * k + j) (by omega)]; simp [gI_pI, gI_pL, gI_pD, gI_pR, gI_pnw, gI_pcp, gL_pI, gL_pL, gL_pD, gL_pR, gL_pnw, gL_pcp, gD_pI, gD_pL, gD_pD, gD_pR, gD_pnw, gD_pcp, gR_pI, gR_pL, gR_pD, gR_pR, gR_pnw, gR_pcp, gz_pI, gz_pL, gz_pD, gz_pR, gz_pnw, gz_pcp]
      · exact h1 j (by omega) j2
    · rw [h2 j (by omega)]
      simp only [gI_pI, gI_pL, gI_pD, gI_pR, gI_pnw, gI_pcp, gL_pI, gL_pL, gL_pD, gL_pR, gL_pnw, gL_pcp, gD_pI, gD_pL, gD_pD, gD_pR, gD_pnw, gD_pcp, gR_pI, gR_pL, gR_pD, gR_pR, gR_pnw, gR_pcp, gz_pI, gz_pL, gz_pD, gz_pR, gz_pnw, gz_pcp]; rw [if_neg (by omega)]
theorem d_replace_175 {o k at_ fr : Nat} {x1 x2 x3 x4 : Int} {q : Pc} {Q : Im → Prop} {K240 : Nat → Int → Int → Int → Int → Int → Int → Im → Prop} (ho : o < 10000) (hfr : fr + (pks q).length ≤ 12000) (hat : at_ + (pks q).length ≤ 6000) (hdf : ∀ i, i < (pks q).length → df q i = 0 ∨ df q i = 1) :
    ∀ (d i : Nat) {M : Im}, i + d = (pks q).length → gI M 75 o = (fr : Nat) → gI M 76 o = (pks q).length → (∀ j, j < (pks q).length → gL M 82 (fr + j) = kf q j ∧ gI M 84 (fr + j) = df q j) →
    (∀ M', Ag (fun b => b = 92 ∨ b = 94) M M' → (∀ j, i ≤ j → j < (pks q).length → gL M' 92 (at_ + j) = kf q j ∧ gI M' 94 (at_ + j) = df q j) → (∀ j, j < at_ + i → gL M' 92 j = gL M 92 j ∧ gI M' 94 j = gI M 94 j) → K240 69 x1 x2 x3 x4 ((at_ + (pks q).length : Nat) : Int) k M') →
    sp_X5_replace_175 (d + 1) 69 x1 x2 x3 x4 ((at_ + i : Nat) : Int) k o i M Q K240
  | 0, i, M, h, h75, h76, hr, hQ => by
    have w76 : alen 76 = 10000 := rfl
    unfold sp_X5_replace_175
    rw [show ((o : Nat) : Int).toNat = o by omega, h76, w76]
    refine ⟨by omega, fun _ => ?_, fun h => by omega⟩
    have := hQ M Ag.refl (fun j h1 h2 => by omega) (fun _ _ => ⟨rfl, rfl⟩)
    rw [show at_ + i = at_ + (pks q).length by omega]
    exact this
  | d + 1, i, M, h, h75, h76, hr, hQ => by
    have w75 : alen 75 = 10000 := rfl
    have w76 : alen 76 = 10000 := rfl
    have w82 : alen 82 = 12000 := rfl
    have w84 : alen 84 = 12000 := rfl
    have w92 : alen 92 = 6000 := rfl
    have w94 : alen 94 = 6000 := rfl
    have r := hr i (by omega)
    unfold sp_X5_replace_175
    rw [show ((o : Nat) : Int).toNat = o by omega, h76, h75, w75, w76, w82, w84, w92, w94, show (((fr : Nat) : Int) + ((i : Nat) : Int)).toNat = fr + i by omega, show ((at_ + i : Nat) : Int).toNat = at_ + i by omega, r.1]
    refine ⟨by omega, fun h => by omega, fun _ => ⟨by omega, by omega, by omega, by omega, by omega, ?_⟩⟩
    rintro M11 rfl
    have e75 : gI (pL M 92 (at_ + i) (kf q i)) 75 o = (fr : Nat) := h75
    have e84 : gI (pL M 92 (at_ + i) (kf q i)) 84 (fr + i) = df q i := r.2
    rw [e75, show (((fr : Nat) : Int) + ((i : Nat) : Int)).toNat = fr + i by omega, e84]
    refine ⟨by omega, by omega, by omega, by omega, by omega, hdf i (by omega), by omega, ?_⟩
    rintro M12 rfl
    refine ⟨by omega, ?_⟩
    rintro i13 rfl
    refine ⟨by omega, ?_⟩
    rintro i14 rfl
    rw [show (i : Int) + 1 = ((i + 1 : Nat) : Int) by omega, show ((at_ + i : Nat) : Int) + 1 = ((at_ + (i + 1) : Nat) : Int) by omega]
    have g : Ag (fun b => b = 92 ∨ b = 94) M (pI (pL M 92 (at_ + i) (kf q i)) 94 (at_ + i) (df q i)) := ((Ag.refl (S := fun b => b = 92 ∨ b = 94)).pL (Or.inl rfl)).pI (Or.inr rfl)
    have e1 : ∀ j, gL (pI (pL M 92 (at_ + i) (kf q i)) 94 (at_ + i) (df q i)) 92 j = if j = at_ + i then kf q i else gL M 92 j := fun j => by simp [gI_pI, gI_pL, gI_pD, gI_pR, gI_pnw, gI_pcp, gL_pI, gL_pL, gL_pD, gL_pR, gL_pnw, gL_pcp, gD_pI, gD_pL, gD_pD, gD_pR, gD_pnw, gD_pcp, gR_pI, gR_pL, gR_pD, gR_pR, gR_pnw, gR_pcp, gz_pI, gz_pL, gz_pD, gz_pR, gz_pnw, gz_pcp]
    have e2 : ∀ j, gI (pI (pL M 92 (at_ + i) (kf q i)) 94 (at_ + i) (df q i)) 94 j = if j = at_ + i then df q i else gI M 94 j := fun j => by simp [gI_pI, gI_pL, gI_pD, gI_pR, gI_pnw, gI_pcp, gL_pI, gL_pL, gL_pD, gL_pR, gL_pnw, gL_pcp, gD_pI, gD_pL, gD_pD, gD_pR, gD_pnw, gD_pcp, gR_pI, gR_pL, gR_pD, gR_pR, gR_pnw, gR_pcp, gz_pI, gz_pL, gz_pD, gz_pR, gz_pnw, gz_pcp]
    generalize pI (pL M 92 (at_ + i) (kf q i)) 94 (at_ + i) (df q i) = M1 at g e1 e2
    refine d_replace_175 ho hfr hat hdf d (i + 1) (by omega) (by rw [g.I (by omega)]; exact h75) (by rw [g.I (by omega)]; exact h76) (fun j hj => by rw [g.L (by omega), g.I (by omega)]; exact hr j hj) fun M' g' h1 h2 => hQ M' (g.trans g') (fun j j1 j2 => ?_) (fun j hj => ?_)
    · by_cases e : j = i
      · subst e
        rw [(h2 (at_ + j) (by omega)).1, (h2 (at_ + j) (by omega)).2, e1, e2, if_pos rfl, if_pos rfl]
        exact ⟨rfl, rfl⟩
      · exact h1 j (by omega) j2
    · rw [(h2 j (by omega)).1, (h2 j (by omega)).2, e1, e2, if_neg (by omega), if_neg (by omega)]
      exact ⟨rfl, rfl⟩
theorem d_replace_14 {to : Nat} {x1 x3 : Int} {l A : List Pc} {Q : Im → Prop} {K246 : Nat → Int → Int → Int → Im → Prop} (hpre : l <+: A) (hto : to ≤ l.length) (hl : l.length ≤ 590) (hs : ksum l ≤ 590) (hok : ∀ q, q ∈ l → pok q ∧ (plt q).length ≤ 16) :
    ∀ (d k : Nat) {M : Im}, k + d = (l.drop to).length → K0 ≤ gz M → MA M A → (∀ r q, r < k → (l.drop to)[r]? = some q → KP M r (ksum ((l.drop to).take r)) q) → (∀ M', Ag AgK M M' → (∀ r q, (l.drop to)[r]? = some q → KP M' r (ksum ((l.drop to).take r)) q) → K246 69 x1 x3 (l.drop to).length M') →
    sp_X5_replace_14 (d + 1) 69 x1 to x3 (l.drop to).length (ksum ((l.drop to).take k) : Nat) k M Q K246
  | 0, k, M, h, hk, hA, hKP, hQ => by
    unfold sp_X5_replace_14
    refine ⟨fun _ => hQ M Ag.refl fun r q hr => hKP r q (by have := (List.getElem?_eq_some_iff.mp hr).1; omega) hr, fun h => by omega⟩
  | d + 1, k, M, h, hk, hA, hKP, hQ => by
    have w74 : alen 74 = 10000 := rfl
    have w76 : alen 76 = 10000 := rfl
    have w77 : alen 77 = 10000 := rfl
    have w78 : alen 78 = 10000 := rfl
    have w79 : alen 79 = 10000 := rfl
    have w80 : alen 80 = 10000 := rfl
    have w81 : alen 81 = 10000 := rfl
    have w85 : alen 85 = 5000 := rfl
    have w86 : alen 86 = 5000 := rfl
    have w87 : alen 87 = 5000 := rfl
    have w88 : alen 88 = 5000 := rfl
    have w89 : alen 89 = 5000 := rfl
    have w90 : alen 90 = 5000 := rfl
    have w91 : alen 91 = 5000 := rfl
    have hkl : k < (l.drop to).length := by omega
    have hq : (l.drop to)[k]? = some ((l.drop to)[k]'hkl) := List.getElem?_eq_getElem hkl
    generalize (l.drop to)[k]'hkl = q at hq
    have hq2 : l[to + k]? = some q := by rw [List.getElem?_drop] at hq; exact hq
    have hlt := (List.getElem?_eq_some_iff.mp hq2).1
    have hmem := hok q (List.mem_of_getElem? hq2)
    obtain ⟨rest, rfl⟩ := hpre
    have hqA : (l ++ rest)[to + k]? = some q := by rw [List.getElem?_append_left hlt]; exact hq2
    have hP := hA _ _ hqA
    rw [List.take_append_of_le_length (by omega)] at hP
    have kin := ksum_in hq2
    have kd := ksum_succ hq
    have kdl := ksum_take_le (l.drop to) (k + 1)
    have ksd : ksum (l.take to) + ksum (l.drop to) = ksum l := by rw [← ksum_app, List.take_append_drop]
    obtain ⟨⟨a0, a1, a2, a3, a4⟩, ⟨a6, a7, a8⟩, b1, b2⟩ := id hP
    unfold sp_X5_replace_14
    refine ⟨fun h => by omega, fun _ => ⟨by omega, ?_⟩⟩
    rintro i1 hi1
    obtain rfl : i1 = ((to + k : Nat) : Int) := by omega
    clear hi1
    rw [show ((to + k : Nat) : Int).toNat = to + k by omega, show ((k : Nat) : Int).toNat = k by omega, a0, w74, w76, w77, w78, w79, w80, w81, w85, w86, w87, w88, w89, w90, w91]
    refine ⟨by omega, by omega, ?_⟩
    rintro M2 rfl
    refine ⟨by omega, by omega, ?_⟩
    have r2 : gI (pI M 85 k (pki q)) 76 (to + k) = (pks q).length := a2
    rw [r2]
    rintro M3 rfl
    refine ⟨by omega, by omega, ?_⟩
    have r3 : gI (pI (pI M 85 k (pki q)) 86 k ((pks q).length : Nat)) 77 (to + k) = pma q := a3
    rw [r3]
    rintro M4 rfl
    refine ⟨by omega, by omega, ?_⟩
    have r4 : gI (pI (pI (pI M 85 k (pki q)) 86 k ((pks q).length : Nat)) 87 k (pma q)) 78 (to + k) = (plt q).length := a4
    rw [r4]
    rintro M5 rfl
    refine ⟨by omega, by omega, ?_⟩
    have r5 : gL (pI (pI (pI (pI M 85 k (pki q)) 86 k ((pks q).length : Nat)) 87 k (pma q)) 88 k ((plt q).length : Nat)) 79 (to + k) = (pln q).1 := a6
    rw [r5]
    rintro M6 rfl
    refine ⟨by omega, by omega, ?_⟩
    have r6 : gL (pL (pI (pI (pI (pI M 85 k (pki q)) 86 k ((pks q).length : Nat)) 87 k (pma q)) 88 k ((plt q).length : Nat)) 89 k (pln q).1) 80 (to + k) = (pln q).2.1 := a7
    rw [r6]
    rintro M7 rfl
    refine ⟨by omega, by omega, ?_⟩
    have r7 : gL (pL (pL (pI (pI (pI (pI M 85 k (pki q)) 86 k ((pks q).length : Nat)) 87 k (pma q)) 88 k ((plt q).length : Nat)) 89 k (pln q).1) 90 k (pln q).2.1) 81 (to + k) = (pln q).2.2 := a8
    rw [r7]
    rintro M8 rfl
    have g : Ag AgK M (pL (pL (pL (pI (pI (pI (pI M 85 k (pki q)) 86 k ((pks q).length : Nat)) 87 k (pma q)) 88 k ((plt q).length : Nat)) 89 k (pln q).1) 90 k (pln q).2.1) 91 k (pln q).2.2) :=
      ((((((((Ag.refl (S := AgK)).pI (by unfold AgK; omega)).pI (by unfold AgK; omega)).pI (by unfold AgK; omega)).pI (by unfold AgK; omega)).pL (by unfold AgK; omega)).pL (by unfold AgK; omega)).pL (by unfold AgK; omega))
    have z85 : gI (pL (pL (pL (pI (pI (pI (pI M 85 k (pki q)) 86 k ((pks q).length : Nat)) 87 k (pma q)) 88 k ((plt q).length : Nat)) 89 k (pln q).1) 90 k (pln q).2.1) 91 k (pln q).2.2) 85 k = pki q := by simp [gI_pI, gI_pL, gI_pD, gI_pR, gI_pnw, gI_pcp, gL_pI, gL_pL, gL_pD, gL_pR, gL_pnw, gL_pcp, gD_pI, gD_pL, gD_pD, gD_pR, gD_pnw, gD_pcp, gR_pI, gR_pL, gR_pD, gR_pR, gR_pnw, gR_pcp, gz_pI, gz_pL, gz_pD, gz_pR, gz_pnw, gz_pcp]
    have z86 : gI (pL (pL (pL (pI (pI (pI (pI M 85 k (pki q)) 86 k ((pks q).length : Nat)) 87 k (pma q)) 88 k ((plt q).length : Nat)) 89 k (pln q).1) 90 k (pln q).2.1) 91 k (pln q).2.2) 86 k = (pks q).length := by simp [gI_pI, gI_pL, gI_pD, gI_pR, gI_pnw, gI_pcp, gL_pI, gL_pL, gL_pD, gL_pR, gL_pnw, gL_pcp, gD_pI, gD_pL, gD_pD, gD_pR, gD_pnw, gD_pcp, gR_pI, gR_pL, gR_pD, gR_pR, gR_pnw, gR_pcp, gz_pI, gz_pL, gz_pD, gz_pR, gz_pnw, gz_pcp]
    have z87 : gI (pL (pL (pL (pI (pI (pI (pI M 85 k (pki q)) 86 k ((pks q).length : Nat)) 87 k (pma q)) 88 k ((plt q).length : Nat)) 89 k (pln q).1) 90 k (pln q).2.1) 91 k (pln q).2.2) 87 k = pma q := by simp [gI_pI, gI_pL, gI_pD, gI_pR, gI_pnw, gI_pcp, gL_pI, gL_pL, gL_pD, gL_pR, gL_pnw, gL_pcp, gD_pI, gD_pL, gD_pD, gD_pR, gD_pnw, gD_pcp, gR_pI, gR_pL, gR_pD, gR_pR, gR_pnw, gR_pcp, gz_pI, gz_pL, gz_pD, gz_pR, gz_pnw, gz_pcp]
    have z88 : gI (pL (pL (pL (pI (pI (pI (pI M 85 k (pki q)) 86 k ((pks q).length : Nat)) 87 k (pma q)) 88 k ((plt q).length : Nat)) 89 k (pln q).1) 90 k (pln q).2.1) 91 k (pln q).2.2) 88 k = (plt q).length := by simp [gI_pI, gI_pL, gI_pD, gI_pR, gI_pnw, gI_pcp, gL_pI, gL_pL, gL_pD, gL_pR, gL_pnw, gL_pcp, gD_pI, gD_pL, gD_pD, gD_pR, gD_pnw, gD_pcp, gR_pI, gR_pL, gR_pD, gR_pR, gR_pnw, gR_pcp, gz_pI, gz_pL, gz_pD, gz_pR, gz_pnw, gz_pcp]
    have z89 : gL (pL (pL (pL (pI (pI (pI (pI M 85 k (pki q)) 86 k ((pks q).length : Nat)) 87 k (pma q)) 88 k ((plt q).length : Nat)) 89 k (pln q).1) 90 k (pln q).2.1) 91 k (pln q).2.2) 89 k = (pln q).1 := by simp [gI_pI, gI_pL, gI_pD, gI_pR, gI_pnw, gI_pcp, gL_pI, gL_pL, gL_pD, gL_pR, gL_pnw, gL_pcp, gD_pI, gD_pL, gD_pD, gD_pR, gD_pnw, gD_pcp, gR_pI, gR_pL, gR_pD, gR_pR, gR_pnw, gR_pcp, gz_pI, gz_pL, gz_pD, gz_pR, gz_pnw, gz_pcp]
    have z90 : gL (pL (pL (pL (pI (pI (pI (pI M 85 k (pki q)) 86 k ((pks q).length : Nat)) 87 k (pma q)) 88 k ((plt q).length : Nat)) 89 k (pln q).1) 90 k (pln q).2.1) 91 k (pln q).2.2) 90 k = (pln q).2.1 := by simp [gI_pI, gI_pL, gI_pD, gI_pR, gI_pnw, gI_pcp, gL_pI, gL_pL, gL_pD, gL_pR, gL_pnw, gL_pcp, gD_pI, gD_pL, gD_pD, gD_pR, gD_pnw, gD_pcp, gR_pI, gR_pL, gR_pD, gR_pR, gR_pnw, gR_pcp, gz_pI, gz_pL, gz_pD, gz_pR, gz_pnw, gz_pcp]
    have z91 : gL (pL (pL (pL (pI (pI (pI (pI M 85 k (pki q)) 86 k ((pks q).length : Nat)) 87 k (pma q)) 88 k ((plt q).length : Nat)) 89 k (pln q).1) 90 k (pln q).2.1) 91 k (pln q).2.2) 91 k = (pln q).2.2 := by simp [gI_pI, gI_pL, gI_pD, gI_pR, gI_pnw, gI_pcp, gL_pI, gL_pL, gL_pD, gL_pR, gL_pnw, gL_pcp, gD_pI, gD_pL, gD_pD, gD_pR, gD_pnw, gD_pcp, gR_pI, gR_pL, gR_pD, gR_pR, gR_pnw, gR_pcp, gz_pI, gz_pL, gz_pD, gz_pR, gz_pnw, gz_pcp]
    have zI : ∀ b r, r ≠ k → gI (pL (pL (pL (pI (pI (pI (pI M 85 k (pki q)) 86 k ((pks q).length : Nat)) 87 k (pma q)) 88 k ((plt q).length : Nat)) 89 k (pln q).1) 90 k (pln q).2.1) 91 k (pln q).2.2) b r = gI M b r := fun b r h => by simp [gI_pI, gI_pL, gI_pD, gI_pR, gI_pnw, gI_pcp, gL_pI, gL_pL, gL_pD, gL_pR, gL_pnw, gL_pcp, gD_pI, gD_pL, gD_pD, gD_pR, gD_pnw, gD_pcp, gR_pI, gR_pL, gR_pD, gR_pR, gR_pnw, gR_pcp, gz_pI, gz_pL, gz_pD, gz_pR, gz_pnw, gz_pcp, h]
    have zL : ∀ b r, r ≠ k → gL (pL (pL (pL (pI (pI (pI (pI M 85 k (pki q)) 86 k ((pks q).length : Nat)) 87 k (pma q)) 88 k ((plt q).length : Nat)) 89 k (pln q).1) 90 k (pln q).2.1) 91 k (pln q).2.2) b r = gL M b r := fun b r h => by simp [gI_pI, gI_pL, gI_pD, gI_pR, gI_pnw, gI_pcp, gL_pI, gL_pL, gL_pD, gL_pR, gL_pnw, gL_pcp, gD_pI, gD_pL, gD_pD, gD_pR, gD_pnw, gD_pcp, gR_pI, gR_pL, gR_pD, gR_pR, gR_pnw, gR_pcp, gz_pI, gz_pL, gz_pD, gz_pR, gz_pnw, gz_pcp, h]
    have zr : ∀ r, gL (pL (pL (pL (pI (pI (pI (pI M 85 k (pki q)) 86 k ((pks q).length : Nat)) 87 k (pma q)) 88 k ((plt q).length : Nat)) 89 k (pln q).1) 90 k (pln q).2.1) 91 k (pln q).2.2) 92 r = gL M 92 r ∧ gL (pL (pL (pL (pI (pI (pI (pI M 85 k (pki q)) 86 k ((pks q).length : Nat)) 87 k (pma q)) 88 k ((plt q).length : Nat)) 89 k (pln q).1) 90 k (pln q).2.1) 91 k (pln q).2.2) 93 r = gL M 93 r ∧ gI (pL (pL (pL (pI (pI (pI (pI M 85 k (pki q)) 86 k ((pks q).length : Nat)) 87 k (pma q)) 88 k ((plt q).length : Nat)) 89 k (pln q).1) 90 k (pln q).2.1) 91 k (pln q).2.2) 94 r = gI M 94 r := fun r => by simp [gI_pI, gI_pL, gI_pD, gI_pR, gI_pnw, gI_pcp, gL_pI, gL_pL, gL_pD, gL_pR, gL_pnw, gL_pcp, gD_pI, gD_pL, gD_pD, gD_pR, gD_pnw, gD_pcp, gR_pI, gR_pL, gR_pD, gR_pR, gR_pnw, gR_pcp, gz_pI, gz_pL, gz_pD, gz_pR, gz_pnw, gz_pcp]
    generalize pL (pL (pL (pI (pI (pI (pI M 85 k (pki q)) 86 k ((pks q).length : Nat)) 87 k (pma q)) 88 k ((plt q).length : Nat)) 89 k (pln q).1) 90 k (pln q).2.1) 91 k (pln q).2.2 = M8 at g z85 z86 z87 z88 z89 z90 z91 zI zL zr
    have off : ∀ b, b < 85 → ¬ AgK b := fun b hb h => by unfold AgK at h; omega
    refine ⟨(plt q).length + 1, ?_⟩
    refine d_replace_128 (by omega) (by omega) hmem.2 (plt q).length 0 (by omega) (by rw [g.I (off 78 (by omega))]; exact a4) (fun j hj => by rw [g.L (off 83 (by omega))]; exact b2 j hj) fun M9 g9 s9 o9 => ?_
    unfold sp_X5_replace_172
    refine ⟨(pks q).length + 1, ?_⟩
    have G9 : Ag AgK M M9 := g.trans (g9.mono fun b hb => by unfold AgK; omega)
    have key := d_replace_175 (o := to + k) (k := k) (at_ := ksum ((l.drop to).take k)) (fr := ksum (l.take (to + k))) (x1 := x1) (x2 := (to : Int)) (x3 := x3) (x4 := ((l.drop to).length : Int)) (Q := Q) (K240 := fun (x0 : Nat) (x1 : Int) (x2 : Int) (x3 : Int) (x4 : Int) (x5 : Int) (x6 : Int) (M : Im) => sp_X5_replace_240 x0 x1 x2 x3 x4 x5 x6 M Q (fun (x0 : Nat) (x1 : Int) (x2 : Int) (x3 : Int) (x4 : Int) (x5 : Int) (x6 : Int) (M : Im) => sp_X5_replace_14 (d + 1) x0 x1 x2 x3 x4 x5 x6 M Q K246) K246) (by omega) (by omega) (by omega) hmem.1.2.2.2 (pks q).length 0 (M := M9) (by omega) (by rw [G9.I (off 75 (by omega))]; exact a1) (by rw [G9.I (off 76 (by omega))]; exact a2) (fun j hj => by rw [G9.L (off 82 (by omega)), G9.I (off 84 (by omega))]; exact b1 j hj) (fun M10 g10 s10 o10 => ?_)
    · exact key
    · unfold sp_X5_replace_240
      refine ⟨by omega, ?_⟩
      rintro i15 rfl
      rw [show (k : Int) + 1 = ((k + 1 : Nat) : Int) by omega, ← kd]
      have G10 : Ag AgK M M10 := G9.trans (g10.mono fun b hb => by unfold AgK; omega)
      refine d_replace_14 ⟨rest, rfl⟩ hto hl hs hok d (k + 1) (by omega) (G10.k0 hk) (hA.ag G10 fun b h1 h2 => off b (by omega)) (fun r x hr hx => ?_) fun M' g' h' => hQ M' (G10.trans g') h'
      by_cases e : r = k
      · subst e
        rw [hq] at hx
        cases hx
        refine ⟨⟨?_, ?_, ?_, ?_⟩, ⟨?_, ?_, ?_⟩, fun i hi => s10 i (Nat.zero_le _) hi, fun i hi => ?_⟩
        · rw [g10.I (by omega), g9.I (by omega)]; exact z85
        · rw [g10.I (by omega), g9.I (by omega)]; exact z86
        · rw [g10.I (by omega), g9.I (by omega)]; exact z87
        · rw [g10.I (by omega), g9.I (by omega)]; exact z88
        · rw [g10.L (by omega), g9.L (by omega)]; exact z89
        · rw [g10.L (by omega), g9.L (by omega)]; exact z90
        · rw [g10.L (by omega), g9.L (by omega)]; exact z91
        · rw [g10.L (by omega)]; exact s9 i (Nat.zero_le _) hi
      · have hr' : r < k := by omega
        have kx := ksum_succ hx
        have kx2 := ksum_mono (l := l.drop to) (p := r + 1) (r := k) (by omega)
        have hx2 : x ∈ l := List.mem_of_mem_drop (List.mem_of_getElem? hx)
        have hx3 := (hok x hx2).2
        refine (hKP r x hr' hx).frame (fun b h1 h2 => by rw [g10.I (by omega), g9.I (by omega)]; exact zI b r e) (fun b h1 h2 => by rw [g10.L (by omega), g9.L (by omega)]; exact zL b r e) (fun i hi => ?_) (fun i hi => ?_)
        · rw [(o10 (ksum ((l.drop to).take r) + i) (by omega)).1, (o10 (ksum ((l.drop to).take r) + i) (by omega)).2, g9.L (by omega), g9.I (by omega)]
          exact ⟨(zr _).1, (zr _).2.2⟩
        · rw [g10.L (by omega), o9 (16 * r + i) (by omega)]
          exact (zr _).2.1
