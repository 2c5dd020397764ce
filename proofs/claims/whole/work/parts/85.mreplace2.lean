/-! ===== what was kept comes back ===== -/
theorem d_replace_439 {o k : Nat} {x1 x4 x5 x6 x7 : Int} {q : Pc} {Q : Im → Prop} {K483 : Nat → Int → Int → Int → Int → Int → Int → Int → Im → Prop} (ho : o < 10000) (hk5 : k < 5000) (hll : (plt q).length ≤ 16) :
    ∀ (d i : Nat) {M : Im}, i + d = (plt q).length → gI M 78 o = (plt q).length → (∀ j, j < (plt q).length → gL M 93 (16 * k + j) = tf q j) → (∀ M', Ag (· = 83) M M' → (∀ j, i ≤ j → j < (plt q).length → gL M' 83 (16 * o + j) = tf q j) → (∀ j, j < 16 * o + i → gL M' 83 j = gL M 83 j) → K483 69 x1 x4 x5 x6 x7 k o M') →
    sp_X5_replace_439 (d + 1) 69 x1 x4 x5 x6 x7 k o i M Q K483
  | 0, i, M, h, h78, hr, hQ => by
    have w78 : alen 78 = 10000 := rfl
    unfold sp_X5_replace_439
    rw [show ((o : Nat) : Int).toNat = o by omega, h78, w78]
    exact ⟨by omega, fun _ => hQ M Ag.refl (fun j h1 h2 => by omega) (fun _ _ => rfl), fun h => by omega⟩
  | d + 1, i, M, h, h78, hr, hQ => by
    have w78 : alen 78 = 10000 := rfl
    have w83 : alen 83 = 160000 := rfl
    have w93 : alen 93 = 80000 := rfl
    unfold sp_X5_replace_439
    rw [show ((o : Nat) : Int).toNat = o by omega, h78, w78, w83, w93, show ((16 : Int) * ((o : Nat) : Int) + ((i : Nat) : Int)).toNat = 16 * o + i by omega, show ((16 : Int) * ((k : Nat) : Int) + ((i : Nat) : Int)).toNat = 16 * k + i by omega, hr i (by omega)]
    refine ⟨by omega, fun h => by omega, fun _ => ⟨by omega, by omega, by omega, by omega, by omega, by omega, by omega, by omega, by omega, by omega, ?_⟩⟩
    rintro M9 rfl
    refine ⟨by omega, ?_⟩
    rintro i10 rfl
    rw [show (i : Int) + 1 = ((i + 1 : Nat) : Int) by omega]
    have g : Ag (· = 83) M (pL M 83 (16 * o + i) (tf q i)) := (Ag.refl (S := (· = 83))).pL rfl
    refine d_replace_439 ho hk5 hll d (i + 1) (by omega) h78 (fun j hj => by rw [g.L (by omega)]; exact hr j hj) fun M' g' h1 h2 => hQ M' (g.trans g') (fun j j1 j2 => ?_) (fun j hj => ?_)
    · by_cases e : j = i
      · subst e
        rw [h2 (16 * o + j) (by omega)]; simp [gI_pI, gI_pL, gI_pD, gI_pR, gI_pnw, gI_pcp, gL_pI, gL_pL, gL_pD, gL_pR, gL_pnw, gL_pcp, gD_pI, gD_pL, gD_pD, gD_pR, gD_pnw, gD_pcp, gR_pI, gR_pL, gR_pD, gR_pR, gR_pnw, gR_pcp, gz_pI, gz_pL, gz_pD, gz_pR, gz_pnw, gz_pcp]
      · exact h1 j (by omega) j2
    · rw [h2 j (by omega)]
      simp only [gI_pI, gI_pL, gI_pD, gI_pR, gI_pnw, gI_pcp, gL_pI, gL_pL, gL_pD, gL_pR, gL_pnw, gL_pcp, gD_pI, gD_pL, gD_pD, gD_pR, gD_pnw, gD_pcp, gR_pI, gR_pL, gR_pD, gR_pR, gR_pnw, gR_pcp, gz_pI, gz_pL, gz_pD, gz_pR, gz_pnw, gz_pcp]; rw [if_neg (by omega)]
theorem d_replace_486 {o k at_ be : Nat} {x1 x4 x7 : Int} {q : Pc} {Q : Im → Prop} {K538 : Nat → Int → Int → Int → Int → Int → Int → Im → Prop} (ho : o < 10000) (hbe : be + (pks q).length ≤ 12000) (hat : at_ + (pks q).length ≤ 6000) (hdf : ∀ i, i < (pks q).length → df q i = 0 ∨ df q i = 1) :
    ∀ (d i : Nat) {M : Im}, i + d = (pks q).length → gI M 76 o = (pks q).length → (∀ j, j < (pks q).length → gL M 92 (at_ + j) = kf q j ∧ gI M 94 (at_ + j) = df q j) →
    (∀ M', Ag (fun b => b = 82 ∨ b = 84) M M' → (∀ j, i ≤ j → j < (pks q).length → gL M' 82 (be + j) = kf q j ∧ gI M' 84 (be + j) = df q j) → (∀ j, j < be + i → gL M' 82 j = gL M 82 j ∧ gI M' 84 j = gI M 84 j) → K538 69 x1 x4 ((at_ + (pks q).length : Nat) : Int) ((be + (pks q).length : Nat) : Int) x7 k M') →
    sp_X5_replace_486 (d + 1) 69 x1 x4 ((at_ + i : Nat) : Int) ((be + i : Nat) : Int) x7 k o i M Q K538
  | 0, i, M, h, h76, hr, hQ => by
    have w76 : alen 76 = 10000 := rfl
    unfold sp_X5_replace_486
    rw [show ((o : Nat) : Int).toNat = o by omega, h76, w76]
    refine ⟨by omega, fun _ => ?_, fun h => by omega⟩
    have := hQ M Ag.refl (fun j h1 h2 => by omega) (fun _ _ => ⟨rfl, rfl⟩)
    rw [show at_ + i = at_ + (pks q).length by omega, show be + i = be + (pks q).length by omega]
    exact this
  | d + 1, i, M, h, h76, hr, hQ => by
    have w76 : alen 76 = 10000 := rfl
    have w82 : alen 82 = 12000 := rfl
    have w84 : alen 84 = 12000 := rfl
    have w92 : alen 92 = 6000 := rfl
    have w94 : alen 94 = 6000 := rfl
    have r := hr i (by omega)
    unfold sp_X5_replace_486
    rw [show ((o : Nat) : Int).toNat = o by omega, h76, w76, w82, w84, w92, w94, show ((at_ + i : Nat) : Int).toNat = at_ + i by omega, show ((be + i : Nat) : Int).toNat = be + i by omega, r.1]
    refine ⟨by omega, fun h => by omega, fun _ => ⟨by omega, by omega, ?_⟩⟩
    rintro M31 rfl
    have e94 : gI (pL M 82 (be + i) (kf q i)) 94 (at_ + i) = df q i := r.2
    rw [e94]
    refine ⟨by omega, by omega, hdf i (by omega), ?_⟩
    rintro M32 rfl
    refine ⟨by omega, ?_⟩
    rintro i33 rfl
    refine ⟨by omega, ?_⟩
    rintro i34 rfl
    refine ⟨by omega, ?_⟩
    rintro i35 rfl
    rw [show (i : Int) + 1 = ((i + 1 : Nat) : Int) by omega, show ((at_ + i : Nat) : Int) + 1 = ((at_ + (i + 1) : Nat) : Int) by omega, show ((be + i : Nat) : Int) + 1 = ((be + (i + 1) : Nat) : Int) by omega]
    have g : Ag (fun b => b = 82 ∨ b = 84) M (pI (pL M 82 (be + i) (kf q i)) 84 (be + i) (df q i)) := ((Ag.refl (S := fun b => b = 82 ∨ b = 84)).pL (Or.inl rfl)).pI (Or.inr rfl)
    have e1 : ∀ j, gL (pI (pL M 82 (be + i) (kf q i)) 84 (be + i) (df q i)) 82 j = if j = be + i then kf q i else gL M 82 j := fun j => by simp [gI_pI, gI_pL, gI_pD, gI_pR, gI_pnw, gI_pcp, gL_pI, gL_pL, gL_pD, gL_pR, gL_pnw, gL_pcp, gD_pI, gD_pL, gD_pD, gD_pR, gD_pnw, gD_pcp, gR_pI, gR_pL, gR_pD, gR_pR, gR_pnw, gR_pcp, gz_pI, gz_pL, gz_pD, gz_pR, gz_pnw, gz_pcp]
    have e2 : ∀ j, gI (pI (pL M 82 (be + i) (kf q i)) 84 (be + i) (df q i)) 84 j = if j = be + i then df q i else gI M 84 j := fun j => by simp [gI_pI, gI_pL, gI_pD, gI_pR, gI_pnw, gI_pcp, gL_pI, gL_pL, gL_pD, gL_pR, gL_pnw, gL_pcp, gD_pI, gD_pL, gD_pD, gD_pR, gD_pnw, gD_pcp, gR_pI, gR_pL, gR_pD, gR_pR, gR_pnw, gR_pcp, gz_pI, gz_pL, gz_pD, gz_pR, gz_pnw, gz_pcp]
    generalize pI (pL M 82 (be + i) (kf q i)) 84 (be + i) (df q i) = M1 at g e1 e2
    refine d_replace_486 ho hbe hat hdf d (i + 1) (by omega) (by rw [g.I (by omega)]; exact h76) (fun j hj => by rw [g.L (by omega), g.I (by omega)]; exact hr j hj) fun M' g' h1 h2 => hQ M' (g.trans g') (fun j j1 j2 => ?_) (fun j hj => ?_)
    · by_cases e : j = i
      · subst e
        rw [(h2 (be + j) (by omega)).1, (h2 (be + j) (by omega)).2, e1, e2, if_pos rfl, if_pos rfl]
        exact ⟨rfl, rfl⟩
      · exact h1 j (by omega) j2
    · rw [(h2 j (by omega)).1, (h2 j (by omega)).2, e1, e2, if_neg (by omega), if_neg (by omega)]
      exact ⟨rfl, rfl⟩
def AgB (b : Nat) : Prop := 74 ≤ b ∧ b ≤ 84
theorem d_replace_313 {p c : Nat} {pre l3 : List Pc} {Q : Im → Prop} {K544 : Nat → Int → Int → Int → Im → Prop} (hpc : pre.length = p + c) (hl : (pre ++ l3).length ≤ 590) (hs : ksum (pre ++ l3) ≤ 590) (hok : ∀ q, q ∈ pre ++ l3 → pok q ∧ (plt q).length ≤ 16) :
    ∀ (d k : Nat) {M : Im}, k + d = l3.length → K0 ≤ gz M → MA M (pre ++ l3.take k) → (∀ r q, l3[r]? = some q → KP M r (ksum (l3.take r)) q) → (∀ M', Ag AgB M M' → MA M' (pre ++ l3) → K544 69 p l3.length c M') →
    sp_X5_replace_313 (d + 1) 69 p l3.length (ksum (l3.take k) : Nat) ((ksum pre + ksum (l3.take k) : Nat) : Int) c k M Q K544
  | 0, k, M, h, hk, hA, hKP, hQ => by
    unfold sp_X5_replace_313
    refine ⟨fun _ => hQ M Ag.refl ?_, fun h => by omega⟩
    rw [List.take_of_length_le (by omega)] at hA
    exact hA
  | d + 1, k, M, h, hk, hA, hKP, hQ => by
    have w74 : alen 74 = 10000 := rfl
    have w75 : alen 75 = 10000 := rfl
    have w76 : alen 76 = 10000 := rfl
    have w77 : alen 77 = 10000 := rfl
    have w78 : alen 78 = 10000 := rfl
    have w79 : alen 79 = 10000 := rfl
    have w80 : alen 80 = 10000 := rfl
    have w81 : alen 81 = 10000 := rfl
    have w85 : alen 85 = 5000 := rfl
    have w86 : alen 86 = 5000 := rfl
    have w87 : alen 87 = 5000 := rfl
    have w88 : alen 88 = 5000 := rfl
    have w89 : alen 89 = 5000 := rfl
    have w90 : alen 90 = 5000 := rfl
    have w91 : alen 91 = 5000 := rfl
    have hkl : k < l3.length := by omega
    have hq : l3[k]? = some (l3[k]'hkl) := List.getElem?_eq_getElem hkl
    generalize l3[k]'hkl = q at hq
    have hmem := hok q (List.mem_append_right _ (List.mem_of_getElem? hq))
    have hP := hKP k q hq
    have kd := ksum_succ hq
    have kdl := ksum_take_le l3 (k + 1)
    rw [List.length_append] at hl
    rw [ksum_app] at hs
    obtain ⟨⟨a0, a1, a2, a3⟩, ⟨a6, a7, a8⟩, b1, b2⟩ := id hP
    unfold sp_X5_replace_313
    refine ⟨fun h => by omega, fun _ => ⟨by omega, by omega, ?_⟩⟩
    rintro i20 hi20
    obtain rfl : i20 = ((pre.length + k : Nat) : Int) := by omega
    clear hi20
    rw [show ((pre.length + k : Nat) : Int).toNat = pre.length + k by omega, show ((k : Nat) : Int).toNat = k by omega, a0, w74, w75, w76, w77, w78, w79, w80, w81, w85, w86, w87, w88, w89, w90, w91]
    generalize ho : pre.length + k = o at *
    refine ⟨by omega, by omega, ?_⟩
    rintro M2 rfl
    refine ⟨by omega, by omega, ?_⟩
    have r2 : gI (pI M 74 o (pki q)) 86 k = (pks q).length := a1
    rw [r2]
    rintro M3 rfl
    refine ⟨by omega, by omega, ?_⟩
    have r3 : gI (pI (pI M 74 o (pki q)) 76 o ((pks q).length : Nat)) 87 k = pma q := a2
    rw [r3]
    rintro M4 rfl
    refine ⟨by omega, by omega, ?_⟩
    have r4 : gI (pI (pI (pI M 74 o (pki q)) 76 o ((pks q).length : Nat)) 77 o (pma q)) 88 k = (plt q).length := a3
    rw [r4]
    rintro M5 rfl
    refine ⟨by omega, by omega, ?_⟩
    have r5 : gL (pI (pI (pI (pI M 74 o (pki q)) 76 o ((pks q).length : Nat)) 77 o (pma q)) 78 o ((plt q).length : Nat)) 89 k = (pln q).1 := a6
    rw [r5]
    rintro M6 rfl
    refine ⟨by omega, by omega, ?_⟩
    have r6 : gL (pL (pI (pI (pI (pI M 74 o (pki q)) 76 o ((pks q).length : Nat)) 77 o (pma q)) 78 o ((plt q).length : Nat)) 79 o (pln q).1) 90 k = (pln q).2.1 := a7
    rw [r6]
    rintro M7 rfl
    refine ⟨by omega, by omega, ?_⟩
    have r7 : gL (pL (pL (pI (pI (pI (pI M 74 o (pki q)) 76 o ((pks q).length : Nat)) 77 o (pma q)) 78 o ((plt q).length : Nat)) 79 o (pln q).1) 80 o (pln q).2.1) 91 k = (pln q).2.2 := a8
    rw [r7]
    rintro M8 rfl
    refine ⟨by omega, ?_⟩
    rintro M9 rfl
    have g : Ag AgB M (pI (pL (pL (pL (pI (pI (pI (pI M 74 o (pki q)) 76 o ((pks q).length : Nat)) 77 o (pma q)) 78 o ((plt q).length : Nat)) 79 o (pln q).1) 80 o (pln q).2.1) 81 o (pln q).2.2) 75 o ((ksum pre + ksum (l3.take k) : Nat) : Int)) :=
      ((((((((Ag.refl (S := AgB)).pI (by unfold AgB; omega)).pI (by unfold AgB; omega)).pI (by unfold AgB; omega)).pI (by unfold AgB; omega)).pL (by unfold AgB; omega)).pL (by unfold AgB; omega)).pL (by unfold AgB; omega)).pI (by unfold AgB; omega)
    have z74 : gI (pI (pL (pL (pL (pI (pI (pI (pI M 74 o (pki q)) 76 o ((pks q).length : Nat)) 77 o (pma q)) 78 o ((plt q).length : Nat)) 79 o (pln q).1) 80 o (pln q).2.1) 81 o (pln q).2.2) 75 o ((ksum pre + ksum (l3.take k) : Nat) : Int)) 74 o = pki q := by simp [gI_pI, gI_pL, gI_pD, gI_pR, gI_pnw, gI_pcp, gL_pI, gL_pL, gL_pD, gL_pR, gL_pnw, gL_pcp, gD_pI, gD_pL, gD_pD, gD_pR, gD_pnw, gD_pcp, gR_pI, gR_pL, gR_pD, gR_pR, gR_pnw, gR_pcp, gz_pI, gz_pL, gz_pD, gz_pR, gz_pnw, gz_pcp]
    have z75 : gI (pI (pL (pL (pL (pI (pI (pI (pI M 74 o (pki q)) 76 o ((pks q).length : Nat)) 77 o (pma q)) 78 o ((plt q).length : Nat)) 79 o (pln q).1) 80 o (pln q).2.1) 81 o (pln q).2.2) 75 o ((ksum pre + ksum (l3.take k) : Nat) : Int)) 75 o = ((ksum pre + ksum (l3.take k) : Nat) : Int) := by simp [gI_pI, gI_pL, gI_pD, gI_pR, gI_pnw, gI_pcp, gL_pI, gL_pL, gL_pD, gL_pR, gL_pnw, gL_pcp, gD_pI, gD_pL, gD_pD, gD_pR, gD_pnw, gD_pcp, gR_pI, gR_pL, gR_pD, gR_pR, gR_pnw, gR_pcp, gz_pI, gz_pL, gz_pD, gz_pR, gz_pnw, gz_pcp]
    have z76 : gI (pI (pL (pL (pL (pI (pI (pI (pI M 74 o (pki q)) 76 o ((pks q).length : Nat)) 77 o (pma q)) 78 o ((plt q).length : Nat)) 79 o (pln q).1) 80 o (pln q).2.1) 81 o (pln q).2.2) 75 o ((ksum pre + ksum (l3.take k) : Nat) : Int)) 76 o = (pks q).length := by simp [gI_pI, gI_pL, gI_pD, gI_pR, gI_pnw, gI_pcp, gL_pI, gL_pL, gL_pD, gL_pR, gL_pnw, gL_pcp, gD_pI, gD_pL, gD_pD, gD_pR, gD_pnw, gD_pcp, gR_pI, gR_pL, gR_pD, gR_pR, gR_pnw, gR_pcp, gz_pI, gz_pL, gz_pD, gz_pR, gz_pnw, gz_pcp]
    have z77 : gI (pI (pL (pL (pL (pI (pI (pI (pI M 74 o (pki q)) 76 o ((pks q).length : Nat)) 77 o (pma q)) 78 o ((plt q).length : Nat)) 79 o (pln q).1) 80 o (pln q).2.1) 81 o (pln q).2.2) 75 o ((ksum pre + ksum (l3.take k) : Nat) : Int)) 77 o = pma q := by simp [gI_pI, gI_pL, gI_pD, gI_pR, gI_pnw, gI_pcp, gL_pI, gL_pL, gL_pD, gL_pR, gL_pnw, gL_pcp, gD_pI, gD_pL, gD_pD, gD_pR, gD_pnw, gD_pcp, gR_pI, gR_pL, gR_pD, gR_pR, gR_pnw, gR_pcp, gz_pI, gz_pL, gz_pD, gz_pR, gz_pnw, gz_pcp]
    have z78 : gI (pI (pL (pL (pL (pI (pI (pI (pI M 74 o (pki q)) 76 o ((pks q).length : Nat)) 77 o (pma q)) 78 o ((plt q).length : Nat)) 79 o (pln q).1) 80 o (pln q).2.1) 81 o (pln q).2.2) 75 o ((ksum pre + ksum (l3.take k) : Nat) : Int)) 78 o = (plt q).length := by simp [gI_pI, gI_pL, gI_pD, gI_pR, gI_pnw, gI_pcp, gL_pI, gL_pL, gL_pD, gL_pR, gL_pnw, gL_pcp, gD_pI, gD_pL, gD_pD, gD_pR, gD_pnw, gD_pcp, gR_pI, gR_pL, gR_pD, gR_pR, gR_pnw, gR_pcp, gz_pI, gz_pL, gz_pD, gz_pR, gz_pnw, gz_pcp]
    have z79 : gL (pI (pL (pL (pL (pI (pI (pI (pI M 74 o (pki q)) 76 o ((pks q).length : Nat)) 77 o (pma q)) 78 o ((plt q).length : Nat)) 79 o (pln q).1) 80 o (pln q).2.1) 81 o (pln q).2.2) 75 o ((ksum pre + ksum (l3.take k) : Nat) : Int)) 79 o = (pln q).1 := by simp [gI_pI, gI_pL, gI_pD, gI_pR, gI_pnw, gI_pcp, gL_pI, gL_pL, gL_pD, gL_pR, gL_pnw, gL_pcp, gD_pI, gD_pL, gD_pD, gD_pR, gD_pnw, gD_pcp, gR_pI, gR_pL, gR_pD, gR_pR, gR_pnw, gR_pcp, gz_pI, gz_pL, gz_pD, gz_pR, gz_pnw, gz_pcp]
    have z80 : gL (pI (pL (pL (pL (pI (pI (pI (pI M 74 o (pki q)) 76 o ((pks q).length : Nat)) 77 o (pma q)) 78 o ((plt q).length : Nat)) 79 o (pln q).1) 80 o (pln q).2.1) 81 o (pln q).2.2) 75 o ((ksum pre + ksum (l3.take k) : Nat) : Int)) 80 o = (pln q).2.1 := by simp [gI_pI, gI_pL, gI_pD, gI_pR, gI_pnw, gI_pcp, gL_pI, gL_pL, gL_pD, gL_pR, gL_pnw, gL_pcp, gD_pI, gD_pL, gD_pD, gD_pR, gD_pnw, gD_pcp, gR_pI, gR_pL, gR_pD, gR_pR, gR_pnw, gR_pcp, gz_pI, gz_pL, gz_pD, gz_pR, gz_pnw, gz_pcp]
    have z81 : gL (pI (pL (pL (pL (pI (pI (pI (pI M 74 o (pki q)) 76 o ((pks q).length : Nat)) 77 o (pma q)) 78 o ((plt q).length : Nat)) 79 o (pln q).1) 80 o (pln q).2.1) 81 o (pln q).2.2) 75 o ((ksum pre + ksum (l3.take k) : Nat) : Int)) 81 o = (pln q).2.2 := by simp [gI_pI, gI_pL, gI_pD, gI_pR, gI_pnw, gI_pcp, gL_pI, gL_pL, gL_pD, gL_pR, gL_pnw, gL_pcp, gD_pI, gD_pL, gD_pD, gD_pR, gD_pnw, gD_pcp, gR_pI, gR_pL, gR_pD, gR_pR, gR_pnw, gR_pcp, gz_pI, gz_pL, gz_pD, gz_pR, gz_pnw, gz_pcp]
    have zI : ∀ b r, r ≠ o → gI (pI (pL (pL (pL (pI (pI (pI (pI M 74 o (pki q)) 76 o ((pks q).length : Nat)) 77 o (pma q)) 78 o ((plt q).length : Nat)) 79 o (pln q).1) 80 o (pln q).2.1) 81 o (pln q).2.2) 75 o ((ksum pre + ksum (l3.take k) : Nat) : Int)) b r = gI M b r := fun b r h => by simp [gI_pI, gI_pL, gI_pD, gI_pR, gI_pnw, gI_pcp, gL_pI, gL_pL, gL_pD, gL_pR, gL_pnw, gL_pcp, gD_pI, gD_pL, gD_pD, gD_pR, gD_pnw, gD_pcp, gR_pI, gR_pL, gR_pD, gR_pR, gR_pnw, gR_pcp, gz_pI, gz_pL, gz_pD, gz_pR, gz_pnw, gz_pcp, h]
    have zL : ∀ b r, r ≠ o → gL (pI (pL (pL (pL (pI (pI (pI (pI M 74 o (pki q)) 76 o ((pks q).length : Nat)) 77 o (pma q)) 78 o ((plt q).length : Nat)) 79 o (pln q).1) 80 o (pln q).2.1) 81 o (pln q).2.2) 75 o ((ksum pre + ksum (l3.take k) : Nat) : Int)) b r = gL M b r := fun b r h => by simp [gI_pI, gI_pL, gI_pD, gI_pR, gI_pnw, gI_pcp, gL_pI, gL_pL, gL_pD, gL_pR, gL_pnw, gL_pcp, gD_pI, gD_pL, gD_pD, gD_pR, gD_pnw, gD_pcp, gR_pI, gR_pL, gR_pD, gR_pR, gR_pnw, gR_pcp, gz_pI, gz_pL, gz_pD, gz_pR, gz_pnw, gz_pcp, h]
    have zr : ∀ r, gL (pI (pL (pL (pL (pI (pI (pI (pI M 74 o (pki q)) 76 o ((pks q).length : Nat)) 77 o (pma q)) 78 o ((plt q).length : Nat)) 79 o (pln q).1) 80 o (pln q).2.1) 81 o (pln q).2.2) 75 o ((ksum pre + ksum (l3.take k) : Nat) : Int)) 82 r = gL M 82 r ∧ gL (pI (pL (pL (pL (pI (pI (pI (pI M 74 o (pki q)) 76 o ((pks q).length : Nat)) 77 o (pma q)) 78 o ((plt q).length : Nat)) 79 o (pln q).1) 80 o (pln q).2.1) 81 o (pln q).2.2) 75 o ((ksum pre + ksum (l3.take k) : Nat) : Int)) 83 r = gL M 83 r ∧ gI (pI (pL (pL (pL (pI (pI (pI (pI M 74 o (pki q)) 76 o ((pks q).length : Nat)) 77 o (pma q)) 78 o ((plt q).length : Nat)) 79 o (pln q).1) 80 o (pln q).2.1) 81 o (pln q).2.2) 75 o ((ksum pre + ksum (l3.take k) : Nat) : Int)) 84 r = gI M 84 r := fun r => by simp [gI_pI, gI_pL, gI_pD, gI_pR, gI_pnw, gI_pcp, gL_pI, gL_pL, gL_pD, gL_pR, gL_pnw, gL_pcp, gD_pI, gD_pL, gD_pD, gD_pR, gD_pnw, gD_pcp, gR_pI, gR_pL, gR_pD, gR_pR, gR_pnw, gR_pcp, gz_pI, gz_pL, gz_pD, gz_pR, gz_pnw, gz_pcp]
    generalize pI (pL (pL (pL (pI (pI (pI (pI M 74 o (pki q)) 76 o ((pks q).length : Nat)) 77 o (pma q)) 78 o ((plt q).length : Nat)) 79 o (pln q).1) 80 o (pln q).2.1) 81 o (pln q).2.2) 75 o ((ksum pre + ksum (l3.take k) : Nat) : Int) = M8 at g z74 z75 z76 z77 z78 z79 z80 z81 zI zL zr
    have off : ∀ b, 85 ≤ b → ¬ AgB b := fun b hb h => by unfold AgB at h; omega
    refine ⟨(plt q).length + 1, ?_⟩
    refine d_replace_439 (by omega) (by omega) hmem.2 (plt q).length 0 (by omega) z78 (fun j hj => by rw [g.L (off 93 (by omega))]; exact b2 j hj) fun M9 g9 s9 o9 => ?_
    unfold sp_X5_replace_483
    refine ⟨(pks q).length + 1, ?_⟩
    have G9 : Ag AgB M M9 := g.trans (g9.mono fun b hb => by unfold AgB; omega)
    have key := d_replace_486 (o := o) (k := k) (at_ := ksum (l3.take k)) (be := ksum pre + ksum (l3.take k)) (x1 := (p : Int)) (x4 := (l3.length : Int)) (x7 := (c : Int)) (q := q) (Q := Q) (K538 := fun (x0 : Nat) (x1 : Int) (x4 : Int) (x5 : Int) (x6 : Int) (x7 : Int) (x8 : Int) (M : Im) => sp_X5_replace_538 x0 x1 x4 x5 x6 x7 x8 M Q (fun (x0 : Nat) (x1 : Int) (x4 : Int) (x5 : Int) (x6 : Int) (x7 : Int) (x8 : Int) (M : Im) => sp_X5_replace_313 (d + 1) x0 x1 x4 x5 x6 x7 x8 M Q K544) K544) (by omega) (by omega) (by omega) hmem.1.2.2.2 (pks q).length 0 (M := M9) (by omega) (by rw [g9.I (by omega)]; exact z76) (fun j hj => by rw [G9.L (off 92 (by omega)), G9.I (off 94 (by omega))]; exact b1 j hj) (fun M10 g10 s10 o10 => ?_)
    · exact key
    · unfold sp_X5_replace_538
      refine ⟨by omega, ?_⟩
      rintro i36 rfl
      have G10 : Ag AgB M M10 := G9.trans (g10.mono fun b hb => by unfold AgB; omega)
      rw [show (k : Int) + 1 = ((k + 1 : Nat) : Int) by omega, ← kd, show ksum pre + ksum (l3.take k) + (pks q).length = ksum pre + ksum (l3.take (k + 1)) by omega]
      have hlk : (l3.take k).length = k := by rw [List.length_take]; omega
      have A10 : MA M10 (pre ++ l3.take (k + 1)) := by
        rw [take_succ_of hq, ← List.append_assoc]
        intro r x hx
        rcases Nat.lt_or_ge r (pre ++ l3.take k).length with hr | hr
        · rw [List.getElem?_append_left hr] at hx
          rw [List.take_append_of_le_length (by omega)]
          rw [List.length_append, hlk] at hr
          have kin := ksum_in hx
          rw [ksum_app] at kin
          have hx2 : x ∈ pre ++ l3 := (List.mem_append.mp (List.mem_of_getElem? hx)).elim (fun w => List.mem_append_left _ w) (fun w => List.mem_append_right _ (List.mem_of_mem_take w))
          have hx3 := (hok x hx2).2
          refine (hA r x hx).frame (fun b h1 h2 => by rw [g10.I (by omega), g9.I (by omega)]; exact zI b r (by omega)) (fun b h1 h2 => by rw [g10.L (by omega), g9.L (by omega)]; exact zL b r (by omega)) (fun i hi => ?_) (fun i hi => ?_)
          · rw [(o10 (ksum ((pre ++ l3.take k).take r) + i) (by omega)).1, (o10 (ksum ((pre ++ l3.take k).take r) + i) (by omega)).2, g9.L (by omega), g9.I (by omega)]
            exact ⟨(zr _).1, (zr _).2.2⟩
          · rw [g10.L (by omega), o9 (16 * r + i) (by omega)]
            exact (zr _).2.1
        · have hr' : r = o := by
            have := (List.getElem?_eq_some_iff.mp hx).1
            rw [List.length_append, List.length_append, hlk] at this
            rw [List.length_append, hlk] at hr
            simp at this; omega
          subst hr'
          rw [List.getElem?_append_right hr, List.length_append, hlk, ← ho, Nat.sub_self] at hx
          cases hx
          have et : ksum ((pre ++ l3.take k ++ [q]).take r) = ksum pre + ksum (l3.take k) := by
            have : r = (pre ++ l3.take k).length := by rw [List.length_append, hlk]; omega
            rw [this, List.take_left, ksum_app]
          rw [et]
          refine ⟨⟨?_, ?_, ?_, ?_, ?_⟩, ⟨?_, ?_, ?_⟩, fun i hi => s10 i (Nat.zero_le _) hi, fun i hi => ?_⟩
          · rw [g10.I (by omega), g9.I (by omega)]; exact z74
          · rw [g10.I (by omega), g9.I (by omega)]; exact z75
          · rw [g10.I (by omega), g9.I (by omega)]; exact z76
          · rw [g10.I (by omega), g9.I (by omega)]; exact z77
          · rw [g10.I (by omega), g9.I (by omega)]; exact z78
          · rw [g10.L (by omega), g9.L (by omega)]; exact z79
          · rw [g10.L (by omega), g9.L (by omega)]; exact z80
          · rw [g10.L (by omega), g9.L (by omega)]; exact z81
          · rw [g10.L (by omega)]; exact s9 i (Nat.zero_le _) hi
      have hl' : (pre ++ l3).length ≤ 590 := by rw [List.length_append]; exact hl
      have hs' : ksum (pre ++ l3) ≤ 590 := by rw [ksum_app]; exact hs
      exact d_replace_313 hpc hl' hs' hok d (k + 1) (by omega) (G10.k0 hk) A10 (fun r x hx => (hKP r x hx).frame (fun b h1 h2 => G10.I (off b (by omega)) r) (fun b h1 h2 => G10.L (off b (by omega)) r) (fun i _ => ⟨G10.L (off 92 (by omega)) _, G10.I (off 94 (by omega)) _⟩) (fun i _ => G10.L (off 93 (by omega)) _)) fun M' g' h' => hQ M' (G10.trans g') h'
/-- what the model may write but its row, what it told, its way -/
def AgR (b : Nat) : Prop := b = 69 ∨ (71 ≤ b ∧ b ≤ 94)
theorem d_replace {M : Im} {fr to n : Nat} {kind made E : Int} {f : Nat → Int} {l A : List Pc} {Q : Im → Prop} (hk : K0 ≤ gz M) (hA : MA M A) (hpre : l <+: A) (hE : gI M 69 2 = E) (hE4 : 0 ≤ E ∧ E ≤ 40) (hki : kind = 1 ∨ (kind = 2 ∧ 1 ≤ E)) (h24 : gI M 69 24 = made) (hm : 0 ≤ made ∧ made + n ≤ 2000000000) (h26 : gI M 69 26 = (n : Nat)) (h73 : gI M 73 0 = l.length) (hfr : fr ≤ to) (hto : to ≤ l.length)
    (hl : ksum l ≤ 590) (hok : ∀ q, q ∈ l → pok q ∧ (plt q).length ≤ 16) (hfi : ∀ i, i < n → gL M 71 i = f i) (hff : okF f n) (hks : ksum (l.take fr) + n + ksum (l.drop to) ≤ 590) (hf : okF (fk (l.take fr ++ mkk kind E f n ++ l.drop to)) (l.take fr ++ mkk kind E f n ++ l.drop to).length)
    (hQ : ∀ M', Ag AgR M M' → (∀ j, j ≠ 8 → j ≠ 9 → j ≠ 23 → j ≠ 24 → gI M' 69 j = gI M 69 j) → gI M' 69 24 = made + (mkk kind E f n).length → gI M' 69 23 = (if l.take fr ++ mkk kind E f n ++ l.drop to = [] then 0 else 1) → MA M' ((l.take fr ++ mkk kind E f n ++ l.drop to) :: lys E 10 (l.take fr ++ mkk kind E f n ++ l.drop to)).flatten → MLv M' ((l.take fr ++ mkk kind E f n ++ l.drop to) :: lys E 10 (l.take fr ++ mkk kind E f n ++ l.drop to)) → gI M' 69 9 = ((lys E 10 (l.take fr ++ mkk kind E f n ++ l.drop to)).length : Nat) → Q M') : sp_X5_replace 69 fr to kind M Q := by
  have w72 : alen 72 = 20 := rfl
  have w73 : alen 73 = 20 := rfl
  have w75 : alen 75 = 10000 := rfl
  have w76 : alen 76 = 10000 := rfl
  have ll := len_le_ksum (fun q hq => (hok q hq).1)
  have lfr : (l.take fr).length = fr := by rw [List.length_take]; omega
  have ldr : (l.drop to).length = l.length - to := by rw [List.length_drop]
  have lld : (l.drop to).length ≤ ksum (l.drop to) := len_le_ksum (fun q hq => (hok q (List.mem_of_mem_drop hq)).1)
  have llf : (l.take fr).length ≤ ksum (l.take fr) := len_le_ksum (fun q hq => (hok q (List.mem_of_mem_take hq)).1)
  obtain ⟨s1, s2, s3⟩ := mkk_sums kind E f n
  have okm := pok_mkk (kind := kind) (E := E) (f := f) (n := n) hE4 (fun h => by rcases hki with w | w <;> omega) hff (by omega)
  have okm2 : ∀ q, q ∈ mkk kind E f n → (plt q).length ≤ 16 := fun q hq => by
    have : ∀ (l : List Pc), tsum l = 0 → ∀ q, q ∈ l → (plt q).length ≤ 16 := fun l => by
      induction l with
      | nil => intro _ q hq; simp at hq
      | cons x l ih =>
        intro h q hq
        rw [tsum_cons] at h
        rcases List.mem_cons.mp hq with rfl | hq
        · omega
        · exact ih (by omega) q hq
    exact this _ s2 q hq
  generalize hnew : mkk kind E f n = new at *
  have hok' : ∀ q, q ∈ l.take fr ++ new ++ l.drop to → pok q ∧ (plt q).length ≤ 16 := fun q hq => by
    rcases List.mem_append.mp hq with hq | hq
    · rcases List.mem_append.mp hq with hq | hq
      · exact hok q (List.mem_of_mem_take hq)
      · exact ⟨okm q hq, okm2 q hq⟩
    · exact hok q (List.mem_of_mem_drop hq)
  have offK : ∀ b, b < 85 → ¬ AgK b := fun b hb h => by unfold AgK at h; omega
  have offB : ∀ b, b < 74 → ¬ AgB b := fun b hb h => by unfold AgB at h; omega
  unfold sp_X5_replace sp_X5_pieces
  refine ⟨iO_c hk (by decide) rfl, iO_c hk (by decide) rfl, by omega, ?_⟩
  rw [h73]
  refine ⟨by omega, ?_⟩
  rintro i46 rfl
  rw [show ((l.length : Nat) : Int) - ((to : Nat) : Int) = (((l.drop to).length : Nat) : Int) by omega]
  refine ⟨(l.drop to).length + 1, ?_⟩
  refine d_replace_14 hpre hto (by omega) hl hok (l.drop to).length 0 (by omega) hk hA (fun r q hr => absurd hr (Nat.not_lt_zero _)) fun M1 g1 kp => ?_
  have tail : sp_X5_replace_271 69 fr kind (l.drop to).length (ksum (l.take fr) : Nat) M1 Q := by
    have A1 : MA M1 (l.take fr) := fun p q hq => by
      obtain ⟨rest, rfl⟩ := hpre
      have hp := (List.getElem?_eq_some_iff.mp hq).1
      have hq2 : (l ++ rest)[p]? = some q := by
        rw [List.getElem?_append_left (by omega)]
        rw [List.getElem?_take, if_pos (by omega)] at hq; exact hq
      have h := hA p q hq2
      rw [List.take_append_of_le_length (by omega)] at h
      rw [List.take_take, Nat.min_eq_left (by omega)]
      exact h.frame (fun b h1 h2 => g1.I (offK b (by omega)) p) (fun b h1 h2 => g1.L (offK b (by omega)) p) (fun i _ => ⟨g1.L (offK 82 (by omega)) _, g1.I (offK 84 (by omega)) _⟩) (fun i _ => g1.L (offK 83 (by omega)) _)
    unfold sp_X5_replace_271
    rw [g1.I (offK 69 (by omega)), h26]
    have key := d_make (M := M1) (n := n) (ki := kind) (E := E) (f := f) (A := l.take fr) (Q := fun (i17 : Int) (M16 : Im) =>
      (-2147483648 ≤ (gI M16 69 24) + i17 ∧ (gI M16 69 24) + i17 < 2147483648) ∧
      ∀ M18 : Im, M18 = pI M16 69 24 ((gI M16 69 24) + i17) →
      (-2147483648 ≤ ((ksum (l.take fr) : Nat) : Int) + (gI M18 69 26) ∧ ((ksum (l.take fr) : Nat) : Int) + (gI M18 69 26) < 2147483648) ∧
      ∀ i19 : Int, i19 = ((ksum (l.take fr) : Nat) : Int) + (gI M18 69 26) →
      ∃ k313,
      sp_X5_replace_313 k313 69 (fr : Int) (((l.drop to).length : Nat) : Int) 0 i19 i17 0 M18 Q (fun (x0 : Nat) (x1 : Int) (x4 : Int) (x7 : Int) (M : Im) =>
      (0 ≤ (0 : Int) ∧ (0 : Int) < ((alen 72) : Int)) ∧
      ∀ M37 : Im, M37 = pI M 72 0 0 →
      (0 ≤ (0 : Int) ∧ (0 : Int) < ((alen 73) : Int)) ∧
      (-2147483648 ≤ x1 + x7 ∧ x1 + x7 < 2147483648) ∧
      (-2147483648 ≤ (x1 + x7) + x4 ∧ (x1 + x7) + x4 < 2147483648) ∧
      ∀ M38 : Im, M38 = pI M37 73 0 ((x1 + x7) + x4) →
      sp_X5_pieces x0 M38 (fun (i40 : Int) (M39 : Im) =>
      (i40 ≤ 0 →
      sp_X5_replace_577 x0 0 x0 M39 Q) ∧
      (0 < i40 →
      sp_X5_replace_577 x0 1 x0 M39 Q)))) (g1.k0 hk) (by rw [g1.I (offK 69 (by omega))]; exact hE) hE4 hki (by omega) A1 (by omega) (by omega) hff (fun i hi => by rw [g1.L (offK 71 (by omega))]; exact hfi i hi) (fun M2 g2 c2 A2 => ?_)
    · rw [lfr] at key
      exact key
    · try dsimp only
      rw [hnew] at A2 ⊢
      have G2 : Ag AgR M M2 := (g1.mono fun b hb => by unfold AgK at hb; unfold AgR; omega).trans (g2.mono fun b hb => by unfold AgP at hb; unfold AgR; omega)
      have o2 : ∀ j, j ≠ 8 → gI M2 69 j = gI M 69 j := fun j hj => by rw [c2 j hj, g1.I (offK 69 (by omega))]
      rw [o2 24 (by omega), h24]
      refine ⟨by omega, ?_⟩
      rintro M18 rfl
      have e26 : gI (pI M2 69 24 (made + (new.length : Nat))) 69 26 = (n : Nat) := by simp only [gI_pI, gI_pL, gI_pD, gI_pR, gI_pnw, gI_pcp, gL_pI, gL_pL, gL_pD, gL_pR, gL_pnw, gL_pcp, gD_pI, gD_pL, gD_pD, gD_pR, gD_pnw, gD_pcp, gR_pI, gR_pL, gR_pD, gR_pR, gR_pnw, gR_pcp, gz_pI, gz_pL, gz_pD, gz_pR, gz_pnw, gz_pcp]; rw [if_neg (by omega), o2 26 (by omega)]; exact h26
      rw [e26]
      refine ⟨by omega, ?_⟩
      rintro i19 rfl
      refine ⟨(l.drop to).length + 1, ?_⟩
      have g3 : Ag (· = 69) M2 (pI M2 69 24 (made + (new.length : Nat))) := (Ag.refl (S := (· = 69))).pI rfl
      have q24 : gI (pI M2 69 24 (made + (new.length : Nat))) 69 24 = made + (new.length : Nat) := by simp [gI_pI, gI_pL, gI_pD, gI_pR, gI_pnw, gI_pcp, gL_pI, gL_pL, gL_pD, gL_pR, gL_pnw, gL_pcp, gD_pI, gD_pL, gD_pD, gD_pR, gD_pnw, gD_pcp, gR_pI, gR_pL, gR_pD, gR_pR, gR_pnw, gR_pcp, gz_pI, gz_pL, gz_pD, gz_pR, gz_pnw, gz_pcp]
      have qo : ∀ j, j ≠ 24 → gI (pI M2 69 24 (made + (new.length : Nat))) 69 j = gI M2 69 j := fun j hj => by simp [gI_pI, gI_pL, gI_pD, gI_pR, gI_pnw, gI_pcp, gL_pI, gL_pL, gL_pD, gL_pR, gL_pnw, gL_pcp, gD_pI, gD_pL, gD_pD, gD_pR, gD_pnw, gD_pcp, gR_pI, gR_pL, gR_pD, gR_pR, gR_pnw, gR_pcp, gz_pI, gz_pL, gz_pD, gz_pR, gz_pnw, gz_pcp, hj]
      generalize pI M2 69 24 (made + (new.length : Nat)) = M3 at g3 q24 qo
      have key2 := d_replace_313 (p := fr) (c := new.length) (pre := l.take fr ++ new) (l3 := l.drop to) (Q := Q) (K544 := fun (x0 : Nat) (x1 : Int) (x4 : Int) (x7 : Int) (M : Im) =>
        (0 ≤ (0 : Int) ∧ (0 : Int) < ((alen 72) : Int)) ∧
        ∀ M37 : Im, M37 = pI M 72 0 0 →
        (0 ≤ (0 : Int) ∧ (0 : Int) < ((alen 73) : Int)) ∧
        (-2147483648 ≤ x1 + x7 ∧ x1 + x7 < 2147483648) ∧
        (-2147483648 ≤ (x1 + x7) + x4 ∧ (x1 + x7) + x4 < 2147483648) ∧
        ∀ M38 : Im, M38 = pI M37 73 0 ((x1 + x7) + x4) →
        sp_X5_pieces x0 M38 (fun (i40 : Int) (M39 : Im) =>
        (i40 ≤ 0 →
        sp_X5_replace_577 x0 0 x0 M39 Q) ∧
        (0 < i40 →
        sp_X5_replace_577 x0 1 x0 M39 Q))) (by rw [List.length_append]; omega) (by rw [List.length_append, List.length_append]; omega) (by rw [ksum_app, ksum_app]; omega) hok' (l.drop to).length 0 (M := M3) (by omega) (by rw [g3.1]; exact G2.k0 hk) (by rw [List.take_zero, List.append_nil]; exact A2.ag g3 (fun b h1 h2 => by omega)) (fun r q hr => ?_) (fun M4 g4 A4 => ?_)
      · rw [List.take_zero, ksum_nil, ksum_app, s1, Nat.add_zero] at key2
        rw [show ((ksum (l.take fr) : Nat) : Int) + ((n : Nat) : Int) = ((ksum (l.take fr) + n : Nat) : Int) by omega]
        exact key2
      · exact (kp r q hr).frame (fun b h1 h2 => by rw [g3.I (by omega), g2.I (by unfold AgP; omega)]) (fun b h1 h2 => by rw [g3.L (by omega), g2.L (by unfold AgP; omega)]) (fun i _ => ⟨by rw [g3.L (by omega), g2.L (by unfold AgP; omega)], by rw [g3.I (by omega), g2.I (by unfold AgP; omega)]⟩) (fun i _ => by rw [g3.L (by omega), g2.L (by unfold AgP; omega)])
      · try dsimp only
        refine ⟨by omega, ?_⟩
        rintro M37 rfl
        refine ⟨by omega, by omega, by omega, ?_⟩
        rintro M38 rfl
        have g5 : Ag (fun b => b = 72 ∨ b = 73) M4 (pI (pI M4 72 0 0) 73 0 ((fr : Int) + (new.length : Nat) + ((l.drop to).length : Nat))) := ((Ag.refl (S := fun b => b = 72 ∨ b = 73)).pI (Or.inl rfl)).pI (Or.inr rfl)
        have e72 : gI (pI (pI M4 72 0 0) 73 0 ((fr : Int) + (new.length : Nat) + ((l.drop to).length : Nat))) 72 0 = 0 := by simp [gI_pI, gI_pL, gI_pD, gI_pR, gI_pnw, gI_pcp, gL_pI, gL_pL, gL_pD, gL_pR, gL_pnw, gL_pcp, gD_pI, gD_pL, gD_pD, gD_pR, gD_pnw, gD_pcp, gR_pI, gR_pL, gR_pD, gR_pR, gR_pnw, gR_pcp, gz_pI, gz_pL, gz_pD, gz_pR, gz_pnw, gz_pcp]
        have e73 : gI (pI (pI M4 72 0 0) 73 0 ((fr : Int) + (new.length : Nat) + ((l.drop to).length : Nat))) 73 0 = ((l.take fr ++ new ++ l.drop to).length : Nat) := by simp [gI_pI, gI_pL, gI_pD, gI_pR, gI_pnw, gI_pcp, gL_pI, gL_pL, gL_pD, gL_pR, gL_pnw, gL_pcp, gD_pI, gD_pL, gD_pD, gD_pR, gD_pnw, gD_pcp, gR_pI, gR_pL, gR_pD, gR_pR, gR_pnw, gR_pcp, gz_pI, gz_pL, gz_pD, gz_pR, gz_pnw, gz_pcp]; omega
        generalize pI (pI M4 72 0 0) 73 0 ((fr : Int) + (new.length : Nat) + ((l.drop to).length : Nat)) = M5 at g5 e72 e73
        have G5 : Ag AgR M M5 := ((G2.trans (g3.mono fun b hb => Or.inl hb)).trans (g4.mono fun b hb => by unfold AgB at hb; unfold AgR; omega)).trans (g5.mono fun b hb => by unfold AgR; omega)
        have o5 : ∀ j, j ≠ 8 → j ≠ 24 → gI M5 69 j = gI M 69 j := fun j h8 h24 => by rw [g5.I (by omega), g4.I (offB 69 (by omega)), qo j h24, o2 j h8]
        have m5 : gI M5 69 24 = made + (new.length : Nat) := by rw [g5.I (by omega), g4.I (offB 69 (by omega)), q24]
        have A5 : MA M5 (l.take fr ++ new ++ l.drop to) := A4.ag g5 (fun b h1 h2 => by omega)
        have k5 := G5.k0 hk
        unfold sp_X5_pieces
        rw [e73]
        have he : (l.take fr ++ new ++ l.drop to).length ≤ 590 := by rw [List.length_append, List.length_append]; omega
        have hse : ksum (l.take fr ++ new ++ l.drop to) ≤ 590 := by rw [ksum_app, ksum_app]; omega
        generalize l.take fr ++ new ++ l.drop to = l' at *
        refine ⟨iO_c k5 (by decide) rfl, by omega, fun h0 => ?_, fun h0 => ?_⟩
        · have hn : l' = [] := List.eq_nil_of_length_eq_zero (by omega)
          subst hn
          unfold sp_X5_replace_577
          refine ⟨Or.inl rfl, ?_⟩
          rintro M41 rfl
          refine ⟨fun _ => ?_, fun h => absurd (by simp [gI_pI, gI_pL, gI_pD, gI_pR, gI_pnw, gI_pcp, gL_pI, gL_pL, gL_pD, gL_pR, gL_pnw, gL_pcp, gD_pI, gD_pL, gD_pD, gD_pR, gD_pnw, gD_pcp, gR_pI, gR_pL, gR_pD, gR_pR, gR_pnw, gR_pcp, gz_pI, gz_pL, gz_pD, gz_pR, gz_pnw, gz_pcp]) h⟩
          rintro M42 rfl
          refine hQ _ ((G5.pI (Or.inl rfl)).pI (Or.inl rfl)) (fun j h8 h9 h23 h24 => ?_) ?_ ?_ (fun p q hq => by simp [lys] at hq) (fun i y hy => ?_) ?_
          · simp only [gI_pI, gI_pL, gI_pD, gI_pR, gI_pnw, gI_pcp, gL_pI, gL_pL, gL_pD, gL_pR, gL_pnw, gL_pcp, gD_pI, gD_pL, gD_pD, gD_pR, gD_pnw, gD_pcp, gR_pI, gR_pL, gR_pD, gR_pR, gR_pnw, gR_pcp, gz_pI, gz_pL, gz_pD, gz_pR, gz_pnw, gz_pcp]; rw [if_neg (by omega), if_neg (by omega)]; exact o5 j h8 h24
          · simp only [gI_pI, gI_pL, gI_pD, gI_pR, gI_pnw, gI_pcp, gL_pI, gL_pL, gL_pD, gL_pR, gL_pnw, gL_pcp, gD_pI, gD_pL, gD_pD, gD_pR, gD_pnw, gD_pcp, gR_pI, gR_pL, gR_pD, gR_pR, gR_pnw, gR_pcp, gz_pI, gz_pL, gz_pD, gz_pR, gz_pnw, gz_pcp]; rw [if_neg (by omega), if_neg (by omega)]; exact m5
          · simp [gI_pI, gI_pL, gI_pD, gI_pR, gI_pnw, gI_pcp, gL_pI, gL_pL, gL_pD, gL_pR, gL_pnw, gL_pcp, gD_pI, gD_pL, gD_pD, gD_pR, gD_pnw, gD_pcp, gR_pI, gR_pL, gR_pD, gR_pR, gR_pnw, gR_pcp, gz_pI, gz_pL, gz_pD, gz_pR, gz_pnw, gz_pcp]
          · have : i = 0 := by
              have := (List.getElem?_eq_some_iff.mp hy).1
              simp [lys] at this; exact this
            subst this
            have ey : y = [] := by simpa [lys] using hy.symm
            subst ey
            refine ⟨?_, ?_⟩
            · simp [gI_pI, gI_pL, gI_pD, gI_pR, gI_pnw, gI_pcp, gL_pI, gL_pL, gL_pD, gL_pR, gL_pnw, gL_pcp, gD_pI, gD_pL, gD_pD, gD_pR, gD_pnw, gD_pcp, gR_pI, gR_pL, gR_pD, gR_pR, gR_pnw, gR_pcp, gz_pI, gz_pL, gz_pD, gz_pR, gz_pnw, gz_pcp]; exact e72
            · simp [gI_pI, gI_pL, gI_pD, gI_pR, gI_pnw, gI_pcp, gL_pI, gL_pL, gL_pD, gL_pR, gL_pnw, gL_pcp, gD_pI, gD_pL, gD_pD, gD_pR, gD_pnw, gD_pcp, gR_pI, gR_pL, gR_pD, gR_pR, gR_pnw, gR_pcp, gz_pI, gz_pL, gz_pD, gz_pR, gz_pnw, gz_pcp, lys]; simpa using e73
          · simp [gI_pI, gI_pL, gI_pD, gI_pR, gI_pnw, gI_pcp, gL_pI, gL_pL, gL_pD, gL_pR, gL_pnw, gL_pcp, gD_pI, gD_pL, gD_pD, gD_pR, gD_pnw, gD_pcp, gR_pI, gR_pL, gR_pD, gR_pR, gR_pnw, gR_pcp, gz_pI, gz_pL, gz_pD, gz_pR, gz_pnw, gz_pcp, lys]
        · have hn : l' ≠ [] := fun e => by subst e; simp at h0
          unfold sp_X5_replace_577
          refine ⟨Or.inr rfl, ?_⟩
          rintro M41 rfl
          have g6 : Ag (· = 69) M5 (pI M5 69 23 1) := (Ag.refl (S := (· = 69))).pI rfl
          refine ⟨fun h => absurd h (by simp [gI_pI, gI_pL, gI_pD, gI_pR, gI_pnw, gI_pcp, gL_pI, gL_pL, gL_pD, gL_pR, gL_pnw, gL_pcp, gD_pI, gD_pL, gD_pD, gD_pR, gD_pnw, gD_pcp, gR_pI, gR_pL, gR_pD, gR_pR, gR_pnw, gR_pcp, gz_pI, gz_pL, gz_pD, gz_pR, gz_pnw, gz_pcp]), fun _ => ?_⟩
          refine d_layersAnew hE4 he hse (fun q hq => (hok' q hq).1) hf (g6.k0 k5) (by simp only [gI_pI, gI_pL, gI_pD, gI_pR, gI_pnw, gI_pcp, gL_pI, gL_pL, gL_pD, gL_pR, gL_pnw, gL_pcp, gD_pI, gD_pL, gD_pD, gD_pR, gD_pnw, gD_pcp, gR_pI, gR_pL, gR_pD, gR_pR, gR_pnw, gR_pcp, gz_pI, gz_pL, gz_pD, gz_pR, gz_pnw, gz_pcp]; rw [if_neg (by omega), o5 2 (by omega) (by omega)]; exact hE) (A5.ag g6 (fun b h1 h2 => by omega)) (by rw [g6.I (by omega)]; exact e72) (by rw [g6.I (by omega)]; exact e73) fun M' g' o' A' V' n' => ?_
          refine hQ M' ((G5.pI (Or.inl rfl)).trans (g'.mono fun b hb => by unfold AgN at hb; unfold AgR; omega)) (fun j h8 h9 h23 h24 => ?_) ?_ ?_ A' V' n'
          · rw [o' j h8 h9]; simp only [gI_pI, gI_pL, gI_pD, gI_pR, gI_pnw, gI_pcp, gL_pI, gL_pL, gL_pD, gL_pR, gL_pnw, gL_pcp, gD_pI, gD_pL, gD_pD, gD_pR, gD_pnw, gD_pcp, gR_pI, gR_pL, gR_pD, gR_pR, gR_pnw, gR_pcp, gz_pI, gz_pL, gz_pD, gz_pR, gz_pnw, gz_pcp]; rw [if_neg (by omega)]; exact o5 j h8 h24
          · rw [o' 24 (by omega) (by omega)]; simp only [gI_pI, gI_pL, gI_pD, gI_pR, gI_pnw, gI_pcp, gL_pI, gL_pL, gL_pD, gL_pR, gL_pnw, gL_pcp, gD_pI, gD_pL, gD_pD, gD_pR, gD_pnw, gD_pcp, gR_pI, gR_pL, gR_pD, gR_pR, gR_pnw, gR_pcp, gz_pI, gz_pL, gz_pD, gz_pR, gz_pnw, gz_pcp]; rw [if_neg (by omega)]; exact m5
          · rw [o' 23 (by omega) (by omega), if_neg hn]; simp [gI_pI, gI_pL, gI_pD, gI_pR, gI_pnw, gI_pcp, gL_pI, gL_pL, gL_pD, gL_pR, gL_pnw, gL_pcp, gD_pI, gD_pL, gD_pD, gD_pR, gD_pnw, gD_pcp, gR_pI, gR_pL, gR_pD, gR_pR, gR_pnw, gR_pcp, gz_pI, gz_pL, gz_pD, gz_pR, gz_pnw, gz_pcp]
  refine ⟨fun h => ?_, fun h => ?_⟩
  · have hfl : fr - 1 < l.length := by omega
    have hq := List.getElem?_eq_getElem hfl
    generalize l[fr - 1] = q at hq
    obtain ⟨rest, rfl⟩ := hpre
    have hq2 : (l ++ rest)[fr - 1]? = some q := by rw [List.getElem?_append_left hfl]; exact hq
    have h := hA _ q hq2
    rw [List.take_append_of_le_length (by omega)] at h
    have ks := ksum_succ hq
    rw [Nat.sub_add_cancel (by omega)] at ks
    have kl := ksum_take_le l fr
    rw [g1.I (offK 75 (by omega)), g1.I (offK 76 (by omega)), show (((fr : Nat) : Int) - 1).toNat = fr - 1 by omega, h.1.2.1, h.1.2.2.1, w75, w76, show ((ksum (l.take (fr - 1)) : Nat) : Int) + (((pks q).length : Nat) : Int) = ((ksum (l.take fr) : Nat) : Int) by omega]
    exact ⟨by omega, by omega, by omega, by omega, by omega, by omega, by omega, tail⟩
  · obtain rfl : fr = 0 := by omega
    exact tail
