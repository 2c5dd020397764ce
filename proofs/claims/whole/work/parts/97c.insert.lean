/-! ===== insert, drop ===== -/
theorem MA.setL {M M' : Im} {A : List Pc} {p : Nat} {q q' : Pc} (h : MA M A) (hq : A[p]? = some q) (e1 : q'.1 = q.1) (e2 : pks q' = pks q) (g : Ag (fun b => b = 69 ∨ b = 78 ∨ b = 83) M M') (h78 : ∀ x, x ≠ p → gI M' 78 x = gI M 78 x) (h78p : gI M' 78 p = (plt q').length) (hr : ∀ i, i < (plt q').length → gL M' 83 (16 * p + i) = tf q' i) (ho : ∀ j, (j < 16 * p ∨ 16 * p + 16 ≤ j) → gL M' 83 j = gL M 83 j) (h16 : ∀ (x : Nat) (y : Pc), x < p → A[x]? = some y → (plt y).length ≤ 16) : MA M' (A.set p q') := by
  have hp := (List.getElem?_eq_some_iff.mp hq).1
  have ek : (pks q').length = (pks q).length := by rw [e2]
  intro x y hy
  rw [ksum_take_set hq ek]
  by_cases c : x = p
  · subst c
    rw [List.getElem?_set_self hp] at hy
    cases hy
    obtain ⟨⟨a0, a1, a2, a3, a4⟩, ⟨a6, a7, a8⟩, b1, b2⟩ := h x q hq
    refine ⟨⟨by rw [g.I (by omega), a0]; unfold pki; rw [e1], by rw [g.I (by omega)]; exact a1, by rw [g.I (by omega), ek]; exact a2, by rw [g.I (by omega), a3]; unfold pma; rw [e1], h78p⟩, ⟨by rw [g.L (by omega), a6]; unfold pln; rw [e1], by rw [g.L (by omega), a7]; unfold pln; rw [e1], by rw [g.L (by omega), a8]; unfold pln; rw [e1]⟩, fun i hi => ?_, hr⟩
    rw [ek] at hi
    rw [g.L (by omega), g.I (by omega)]
    unfold kf df
    rw [e2]
    exact b1 i hi
  · rw [List.getElem?_set_ne (by omega)] at hy
    refine (h x y hy).frame (fun b h1 h2 => ?_) (fun b h1 h2 => g.L (by omega) x) (fun i _ => ⟨g.L (by omega) _, g.I (by omega) _⟩) (fun i hi => ?_)
    · by_cases c2 : b = 78
      · rw [c2]; exact h78 x c
      · exact g.I (by omega) x
    · rcases Nat.lt_or_ge x p with w | w
      · have := h16 x y w hy
        exact ho _ (by omega)
      · exact ho _ (by omega)
theorem MA.setDr {M : Im} {A : List Pc} {p i : Nat} {d : Int} {q : Pc} (h : MA M A) (hq : A[p]? = some q) (hi : i < (pks q).length) : MA (pI M 84 (ksum (A.take p) + i) d) (A.set p (setD q i d)) := by
  have hp := (List.getElem?_eq_some_iff.mp hq).1
  have g : Ag (· = 84) M (pI M 84 (ksum (A.take p) + i) d) := (Ag.refl (S := (· = 84))).pI rfl
  have gd : ∀ j, gI (pI M 84 (ksum (A.take p) + i) d) 84 j = if j = ksum (A.take p) + i then d else gI M 84 j := fun j => by simp [gI_pI, gI_pL, gI_pD, gI_pR, gI_pnw, gI_pcp, gL_pI, gL_pL, gL_pD, gL_pR, gL_pnw, gL_pcp, gD_pI, gD_pL, gD_pD, gD_pR, gD_pnw, gD_pcp, gR_pI, gR_pL, gR_pD, gR_pR, gR_pnw, gR_pcp, gz_pI, gz_pL, gz_pD, gz_pR, gz_pnw, gz_pcp]
  generalize pI M 84 (ksum (A.take p) + i) d = M' at g gd
  have e1 := setD_len q i d
  intro x y hy
  rw [ksum_take_set hq e1]
  by_cases c : x = p
  · subst c
    rw [List.getElem?_set_self hp] at hy
    cases hy
    obtain ⟨⟨a0, a1, a2, a3, a4⟩, ⟨a6, a7, a8⟩, b1, b2⟩ := h x q hq
    refine ⟨⟨by rw [g.I (by omega)]; exact a0, by rw [g.I (by omega)]; exact a1, by rw [g.I (by omega), e1]; exact a2, by rw [g.I (by omega)]; exact a3, by rw [g.I (by omega)]; exact a4⟩, ⟨by rw [g.L (by omega)]; exact a6, by rw [g.L (by omega)]; exact a7, by rw [g.L (by omega)]; exact a8⟩, fun j hj => ?_, fun j hj => by rw [g.L (by omega)]; exact b2 j hj⟩
    rw [e1] at hj
    rw [g.L (by omega), gd, kf_setD, df_setD hi]
    refine ⟨(b1 j hj).1, ?_⟩
    by_cases e : j = i
    · rw [if_pos e, if_pos (by omega)]
    · rw [if_neg e, if_neg (by omega)]; exact (b1 j hj).2
  · rw [List.getElem?_set_ne (by omega)] at hy
    refine (h x y hy).frame (fun b h1 h2 => g.I (by omega) x) (fun b h1 h2 => g.L (by omega) x) (fun j hj => ⟨g.L (by omega) _, ?_⟩) (fun j _ => g.L (by omega) _)
    have nr : ¬ ksum (A.take x) + j = ksum (A.take p) + i := by
      have s1 := ksum_succ hq
      have s2 := ksum_succ hy
      rcases Nat.lt_or_ge x p with w | w
      · have := ksum_mono (l := A) (p := x + 1) (r := p) (by omega); omega
      · have := ksum_mono (l := A) (p := p + 1) (r := x) (by omega); omega
    rw [gd, if_neg nr]
theorem d_insert_96 {p : Nat} {k : Int} {q : Pc} {Q : Int → Im → Prop} {K152 : Nat → Int → Int → Int → Im → Prop} (hp : p < 10000) (hl : (plt q).length ≤ 15) :
    ∀ (i : Nat) {M : Im}, i ≤ (plt q).length → (∀ j, j < i → gL M 83 (16 * p + j) = tf q j) → (∀ M', Ag (· = 83) M M' → (∀ j, (lsc (tf q) k i).1 < j → j ≤ i → gL M' 83 (16 * p + j) = tf q (j - 1)) → (∀ j, (j ≤ 16 * p + (lsc (tf q) k i).1 ∨ 16 * p + i < j) → gL M' 83 j = gL M 83 j) → K152 69 k p (lsc (tf q) k i).1 M') → sp_X5_insert_96 (i + 1) 69 k p i M Q K152
  | 0, M, hi, hr, hQ => by
    unfold sp_X5_insert_96
    refine ⟨fun _ => hQ M Ag.refl (fun j h1 h2 => by unfold lsc at h1; dsimp only at h1; omega) (fun _ _ => rfl), fun h => by omega⟩
  | i + 1, M, hi, hr, hQ => by
    have w83 : alen 83 = 160000 := rfl
    unfold sp_X5_insert_96
    rw [w83, show ((16 : Int) * ((p : Nat) : Int) + ((i + 1 : Nat) : Int) - 1).toNat = 16 * p + i by omega, show ((16 : Int) * ((p : Nat) : Int) + ((i + 1 : Nat) : Int)).toNat = 16 * p + (i + 1) by omega, hr i (by omega)]
    unfold lsc at hQ
    refine ⟨fun h => by omega, fun _ => ⟨by omega, by omega, by omega, by omega, by omega, by omega, by omega, fun h => ?_, fun h => ⟨by omega, by omega, by omega, by omega, by omega, by omega, by omega, by omega, by omega, by omega, by omega, by omega, ?_⟩⟩⟩
    · rw [if_neg (by omega)] at hQ
      exact hQ M Ag.refl (fun j h1 h2 => by dsimp only at h1; omega) (fun _ _ => rfl)
    · rw [if_pos h] at hQ
      rintro M1 rfl
      refine ⟨by omega, ?_⟩
      rintro i2 rfl
      rw [show ((i + 1 : Nat) : Int) + -1 = ((i : Nat) : Int) by omega]
      have g : Ag (· = 83) M (pL M 83 (16 * p + (i + 1)) (tf q i)) := (Ag.refl (S := (· = 83))).pL rfl
      have gl : ∀ j, gL (pL M 83 (16 * p + (i + 1)) (tf q i)) 83 j = if j = 16 * p + (i + 1) then tf q i else gL M 83 j := fun j => by simp [gI_pI, gI_pL, gI_pD, gI_pR, gI_pnw, gI_pcp, gL_pI, gL_pL, gL_pD, gL_pR, gL_pnw, gL_pcp, gD_pI, gD_pL, gD_pD, gD_pR, gD_pnw, gD_pcp, gR_pI, gR_pL, gR_pD, gR_pR, gR_pnw, gR_pcp, gz_pI, gz_pL, gz_pD, gz_pR, gz_pnw, gz_pcp]
      generalize pL M 83 (16 * p + (i + 1)) (tf q i) = M1 at g gl
      have ls := (lsc_le (tf q) k i).1
      refine d_insert_96 hp hl i (by omega) (fun j hj => by rw [gl, if_neg (by omega)]; exact hr j (by omega)) fun M' g' h1 h2 => hQ M' (g.trans g') (fun j j1 j2 => ?_) (fun j hj => ?_)
      · dsimp only at j1
        by_cases c : j = i + 1
        · rw [c, h2 _ (by omega), gl, if_pos rfl, Nat.add_sub_cancel]
        · exact h1 j j1 (by omega)
      · dsimp only at hj
        rw [h2 j (by omega), gl, if_neg (by omega)]
theorem d_drop_77 {p n : Nat} {Q : Int → Im → Prop} {K120 : Im → Prop} (hp : p < 10000) (hn : n < 16) :
    ∀ (d j0 : Nat) {M : Im}, j0 + d = n → gI M 78 p = (n : Nat) → (∀ M', Ag (· = 83) M M' → (∀ j, j0 ≤ j → j < n → gL M' 83 (16 * p + j) = gL M 83 (16 * p + (j + 1))) → (∀ j, (j < 16 * p + j0 ∨ 16 * p + n ≤ j) → gL M' 83 j = gL M 83 j) → K120 M') → sp_X5_drop_77 (d + 1) 69 p j0 M Q K120
  | 0, j0, M, h, h78, hQ => by
    have w78 : alen 78 = 10000 := rfl
    unfold sp_X5_drop_77
    rw [show ((p : Nat) : Int).toNat = p by omega, h78, w78]
    exact ⟨by omega, fun _ => hQ M Ag.refl (fun j h1 h2 => by omega) (fun _ _ => rfl), fun h => by omega⟩
  | d + 1, j0, M, h, h78, hQ => by
    have w78 : alen 78 = 10000 := rfl
    have w83 : alen 83 = 160000 := rfl
    unfold sp_X5_drop_77
    rw [show ((p : Nat) : Int).toNat = p by omega, h78, w78, w83, show ((16 : Int) * ((p : Nat) : Int) + ((j0 : Nat) : Int) + 1).toNat = 16 * p + (j0 + 1) by omega, show ((16 : Int) * ((p : Nat) : Int) + ((j0 : Nat) : Int)).toNat = 16 * p + j0 by omega]
    refine ⟨by omega, fun h => by omega, fun _ => ⟨by omega, by omega, by omega, by omega, by omega, by omega, by omega, by omega, by omega, by omega, by omega, by omega, ?_⟩⟩
    rintro M1 rfl
    refine ⟨by omega, ?_⟩
    rintro i2 rfl
    rw [show (j0 : Int) + 1 = ((j0 + 1 : Nat) : Int) by omega]
    have g : Ag (· = 83) M (pL M 83 (16 * p + j0) (gL M 83 (16 * p + (j0 + 1)))) := (Ag.refl (S := (· = 83))).pL rfl
    have gl : ∀ j, gL (pL M 83 (16 * p + j0) (gL M 83 (16 * p + (j0 + 1)))) 83 j = if j = 16 * p + j0 then gL M 83 (16 * p + (j0 + 1)) else gL M 83 j := fun j => by simp [gI_pI, gI_pL, gI_pD, gI_pR, gI_pnw, gI_pcp, gL_pI, gL_pL, gL_pD, gL_pR, gL_pnw, gL_pcp, gD_pI, gD_pL, gD_pD, gD_pR, gD_pnw, gD_pcp, gR_pI, gR_pL, gR_pD, gR_pR, gR_pnw, gR_pcp, gz_pI, gz_pL, gz_pD, gz_pR, gz_pnw, gz_pcp]
    generalize pL M 83 (16 * p + j0) (gL M 83 (16 * p + (j0 + 1))) = M1 at g gl
    refine d_drop_77 hp hn d (j0 + 1) (by omega) (by rw [g.I (by omega)]; exact h78) fun M' g' h1 h2 => hQ M' (g.trans g') (fun j j1 j2 => ?_) (fun j hj => ?_)
    · by_cases c : j = j0
      · subst c
        rw [h2 _ (by omega), gl, if_pos rfl]
      · rw [h1 j (by omega) j2, gl, if_neg (by omega)]
    · rw [h2 j (by omega), gl, if_neg (by omega)]
/-- a find by the class's trial -/
theorem c_trial {M : Im} {r : List Int} {E : Int} {l : List Pc} {Y : List (List Pc)} {mk_ an : Int} {w : List Int} {lk n : Nat} {k : Int} {t t' : Nat} {Q : Im → Prop} (hc : CI M r E l Y mk_ an w lk) (hw : WF n r E l Y mk_ an w lk) (hC : CT M t t') (hT : TR M t l) (he : l ≠ []) (hi : inR k)
    (hQ : ∀ M6, Ag (fun b => b = 15 ∨ b = 16) M M6 → CI M6 r E l Y mk_ an w lk → CT M6 t t' → TR M6 t l → gI M6 15 3 = fans k l Y → gI M6 15 4 = (fpc k Y : Nat) → gI M6 15 5 = ((ksum (l.take (fpc k Y)) + fi k l Y : Nat) : Int) → (¬ (kf (fq k l Y) (fi k l Y) = k ∧ df (fq k l Y) (fi k l Y) = 0) → gI M6 15 6 = ((tsum (l.take (fpc k Y)) + (fls k l Y).1 : Nat) : Int)) → Q M6) : sp_X3_follow 15 k (some t) (some 12) Y.length M Q := by
  obtain ⟨f1, f2, f3, f4, f5, f6, f7, f8, f9, f10⟩ := hw.facts
  obtain ⟨q1, q2, q3⟩ := hw.find he k
  obtain ⟨ht, ht', h12, -, -, hcap, -, h300, -⟩ := hC.TL
  have ft := TL_facts t ht
  obtain ⟨-, -, -, -, -, ft1, ft2, -, -, -, ft3, ft4, ft5⟩ := ft
  refine c_follow hc.1 (Or.inr rfl) hi ht hT (by omega) (by omega) (by omega) f5 hc.2.2.2.1 f8 q1 fun M6 g6 w6 l6 a3 a4 a5 a6 _ _ => ?_
  exact hQ M6 g6 (hc.ag g6 (fun b hb => by omega)) ⟨hC.1, by rw [g6.R (by omega)]; exact hC.2.1, by rw [g6.R (by omega)]; exact hC.2.2⟩ (hT.ag g6 (fun b h1 h2 => by omega) (fun b hb => by omega)) a3 a4 a5 a6
theorem d_trial {M : Im} {r : List Int} {E : Int} {l : List Pc} {Y : List (List Pc)} {mk_ an : Int} {w : List Int} {lk n : Nat} {k : Int} {Q : Int → Im → Prop} (hk : K0 ≤ gz M) (hm : MI M r E l Y mk_ an w lk) (hw : WF n r E l Y mk_ an w lk) (he : l ≠ []) (hi : inR k)
    (hQ : ∀ M7, Ag AgF M M7 → MI M7 r E l Y mk_ an w lk → gI M7 69 43 = (fpc k Y : Nat) → gI M7 69 44 = (fi k l Y : Nat) → (kf (fq k l Y) (fi k l Y) = k ∧ df (fq k l Y) (fi k l Y) = 0 → gI M7 69 45 = -1) → (¬ (kf (fq k l Y) (fi k l Y) = k ∧ df (fq k l Y) (fi k l Y) = 0) → gI M7 69 45 = lateI (fls k l Y)) → Q (fans k l Y) M7) : sp_X5_found 69 k M Q := by
  obtain ⟨f1, f2, f3, f4, f5, f6, f7, f8, f9, f10⟩ := hw.facts
  obtain ⟨q1, q2, q3⟩ := hw.find he k
  refine d_found hk hi f7 (fun q hq => by have := hw.2.2.2.2.1 q hq; omega) hm.2.2.1 hm.2.2.2.1 hm.1.2.2.1 q1 f9 fun M7 g7 o7 w7 l7 b43 b44 b45 b45' => ?_
  exact hQ M7 g7 (hm.keep (g7.mono fun b hb => by unfold AgF at hb; unfold MS; omega) (fun j hj => o7 j (by omega) (by omega) (by omega) (by omega) (by omega))) b43 b44 b45 b45'
theorem st_drop {n : Nat} {M : Im} (h : Good n M) (hn : n < 512) (k : Int) : sp_X4_drop 0 k M (fun z M1 => sp_X5_drop 69 k M1 (Fin_ n z)) := by
  have w75 : alen 75 = 10000 := rfl
  have w78 : alen 78 = 10000 := rfl
  have w84 : alen 84 = 12000 := rfl
  obtain ⟨r, E, l, Y, mk_, an, w, lk, hc, hm, hw⟩ := h
  have G := Good.same hc hm hw hn
  obtain ⟨f1, f2, f3, f4, f5, f6, f7, f8, f9, f10⟩ := hw.facts
  obtain ⟨hk, hP, ⟨t, t', hC, hT⟩, hL, ⟨c1, c2, c7, c8, c9⟩, -⟩ := id hc
  obtain ⟨ht, ht', h12, -, -, hcap, -, h300, -⟩ := hC.TL
  have m23 := m23_iff hm.1.2.2.2.1
  have hg := hw.2.2.2.2.2.1
  -- the model, up to its find
  have pre : ∀ (u : Int) (M1 : Im), K0 ≤ gz M1 → MI M1 r E l Y mk_ an w lk → l ≠ [] → inR k → sp_X5_found 69 k M1 (fun (i6 : Int) (M5 : Im) =>
      (¬ i6 = 0 → ∀ i7 : Int, i7 = gI M5 69 43 →
      (0 ≤ (gI M5 69 45) →
      (0 ≤ i7 ∧ i7 < ((alen 78) : Int)) ∧ (0 ≤ i7 ∧ i7 < ((alen 78) : Int)) ∧
      (-2147483648 ≤ (gI M5 78 i7.toNat) - 1 ∧ (gI M5 78 i7.toNat) - 1 < 2147483648) ∧
      ∀ M8 : Im, M8 = pI M5 78 i7.toNat ((gI M5 78 i7.toNat) - 1) →
      ∀ i9 : Int, i9 = gI M8 69 45 → ∃ k77, sp_X5_drop_77 k77 69 i7 i9 M8 (Fin_ n u) (fun (M : Im) => Fin_ n u 1 M)) ∧
      ((gI M5 69 45) < 0 →
      (0 ≤ i7 ∧ i7 < ((alen 75) : Int)) ∧
      (-2147483648 ≤ (gI M5 75 i7.toNat) + (gI M5 69 44) ∧ (gI M5 75 i7.toNat) + (gI M5 69 44) < 2147483648) ∧
      (0 ≤ (gI M5 75 i7.toNat) + (gI M5 69 44) ∧ (gI M5 75 i7.toNat) + (gI M5 69 44) < ((alen 84) : Int)) ∧
      (-2147483648 ≤ (gI M5 75 i7.toNat) + (gI M5 69 44) ∧ (gI M5 75 i7.toNat) + (gI M5 69 44) < 2147483648) ∧
      ∀ M10 : Im, M10 = pI M5 84 ((gI M5 75 i7.toNat) + (gI M5 69 44)).toNat 1 → Fin_ n u 1 M10)) ∧
      (i6 = 0 → Fin_ n u 0 M5)) → sp_X5_drop 69 k M1 (Fin_ n u) := by
    intro u M1 hk1 hm1 he hi hf
    have m23' := m23_iff hm1.1.2.2.2.1
    unfold sp_X5_drop
    exact ⟨iO_c hk1 (by decide) rfl, fun _ => d_isKey hk1 (fun _ => ⟨fun _ => hf, fun h => (by omega)⟩) (fun h => absurd hi h), fun h0 => absurd (m23'.mp h0) he⟩
  unfold sp_X4_drop
  refine ⟨iO_c hk (by decide) rfl, c_hasIndex hk hC hT (fun he => ⟨fun _ => c_isKey (fun hi => ⟨fun _ => ?_, fun h => (by omega)⟩) (fun hi => ⟨fun h => absurd rfl h, fun _ => ?_⟩), fun h => (by omega)⟩) (fun he => ⟨fun h => absurd rfl h, fun _ => ?_⟩)⟩
  · obtain ⟨q1, q2, q3⟩ := hw.find he k
    rintro r6 rfl
    rw [hC.2.1, hL.1]
    have hq : l[fpc k Y]? = some (fq k l Y) := pcAt_get q3
    have hgd := hw.2.2.2.1.1 _ (List.mem_of_getElem? hq)
    have hl15 := hw.2.2.2.2.1 _ (List.mem_of_getElem? hq)
    have hfi : fi k l Y < (pks (fq k l Y)).length := dsc_lt hgd.1 hgd.2.1
    have kin := ksum_in hq
    have tin := tsum_in hq
    have hqA : (l :: Y).flatten[fpc k Y]? = some (fq k l Y) := by rw [List.flatten_cons, List.getElem?_append_left q3]; exact hq
    have etk : (l :: Y).flatten.take (fpc k Y) = l.take (fpc k Y) := by rw [List.flatten_cons, List.take_append_of_le_length (by omega)]
    refine c_trial hc hw hC hT he hi fun M6 g6 hc6 C6 T6 a3 a4 a5 a6 => ?_
    have hm6 := hm.ag g6 (fun b hb => by omega)
    have k6 := g6.k0 hk
    have P6 := hc6.2.1
    rw [a3]
    have f01 := fans01 k l Y
    refine ⟨fun hne => ?_, fun h0 => ?_⟩
    · rintro r8 rfl
      refine ⟨t, C6.2.1, TL_O ht k6, ?_⟩
      rw [a5]
      refine c_holds k6 ht T6 (by omega) hq hfi (fun hh => ⟨fun h => (by omega), fun _ => ?_⟩) (fun hh => ⟨fun _ => ?_, fun h => absurd rfl h⟩)
      · -- a key of the piece
        rintro r15 rfl
        refine ⟨t, C6.2.1, TL_O ht k6, ?_⟩
        rw [a5]
        refine c_markDropped k6 ht P6 T6 (by omega) hq hfi fun M17 F17 P17 T17 => ?_
        obtain ⟨x1, x2, x3, x4⟩ := F17.X ht h12 (fun b h => h.elim) P17
        have ml := mq_len_setD (d := 1) hfi
        rw [if_pos hh.2, if_neg (by omega)] at ml
        have gl := GT_len_set (q' := setD (fq k l Y) (fi k l Y) 1) hq
        have e7 : gI M17 0 7 = (GT l).length := by rw [x2]; exact hc6.2.2.2.2.1.2.2.1
        rw [e7]
        refine ⟨by omega, ?_⟩
        rintro M1 rfl
        have g1 : Ag (· = 0) M17 (pI M17 0 7 (((GT l).length : Int) - 1)) := (Ag.refl (S := (· = 0))).pI rfl
        have b7 : gI (pI M17 0 7 (((GT l).length : Int) - 1)) 0 7 = ((GT l).length : Int) - 1 := by simp [gI_pI, gI_pL, gI_pD, gI_pR, gI_pnw, gI_pcp, gL_pI, gL_pL, gL_pD, gL_pR, gL_pnw, gL_pcp, gD_pI, gD_pL, gD_pD, gD_pR, gD_pnw, gD_pcp, gR_pI, gR_pL, gR_pD, gR_pR, gR_pnw, gR_pcp, gz_pI, gz_pL, gz_pD, gz_pR, gz_pnw, gz_pcp]
        have bo : ∀ j, j ≠ 7 → gI (pI M17 0 7 (((GT l).length : Int) - 1)) 0 j = gI M6 0 j := fun j hj => by simp only [gI_pI, gI_pL, gI_pD, gI_pR, gI_pnw, gI_pcp, gL_pI, gL_pL, gL_pD, gL_pR, gL_pnw, gL_pcp, gD_pI, gD_pL, gD_pD, gD_pR, gD_pnw, gD_pcp, gR_pI, gR_pL, gR_pD, gR_pR, gR_pnw, gR_pcp, gz_pI, gz_pL, gz_pD, gz_pR, gz_pnw, gz_pcp]; rw [if_neg (by omega)]; exact x2 j
        have bR : ∀ j, gR (pI M17 0 7 (((GT l).length : Int) - 1)) 0 j = gR M6 0 j := fun j => x3 j
        generalize pI M17 0 7 (((GT l).length : Int) - 1) = M1 at g1 b7 bo bR
        have GX : AgL IX M6 M1 := x1.trans (g1.mono fun b hb => Or.inl hb).toL
        have P1 : Pool M1 := P17.ag g1 (fun v hv => by have := TL_facts v hv; omega)
        have ft := TL_facts t ht
        have T1 : TR M1 t (l.set (fpc k Y) (setD (fq k l Y) (fi k l Y) 1)) := T17.ag g1 (fun b h1 h2 => by omega) (fun b hb => by omega)
        have L1 : Lay M1 Y := (hc6.2.2.2.1.frI f8 ht h12 F17 P17).ixAg g1 (fun b hb => by omega) (by rw [bo 6 (by omega), x2])
        have hc1 : CI M1 r E (l.set (fpc k Y) (setD (fq k l Y) (fi k l Y) 1)) Y mk_ an w lk := hc6.anew GX P1 ⟨C6.1, by rw [bR]; exact C6.2.1, by rw [bR]; exact C6.2.2⟩ T1 L1 ⟨bo 1 (by omega), bo 2 (by omega)⟩ (by rw [b7]; omega) (by rw [bo 8 (by omega)]; exact hc6.2.2.2.2.1.2.2.2.1) (by rw [bo 9 (by omega)]; exact hc6.2.2.2.2.1.2.2.2.2)
        have hm1 := IX_m GX hm6
        have hwl : WF (n + 1) r E (l.set (fpc k Y) (setD (fq k l Y) (fi k l Y) 1)) Y mk_ an w lk := hw.set hn hq (WL_sub hw.2.2.2.1 hq (pgd_setD hgd hfi (Or.inr rfl)) (fun x hx => by rw [vals_setD] at hx; exact hx) (kf_setD _ _ _ _) (fun t ht => ht)) (kf_setD _ _ _ _) hl15 (by omega) ⟨setD_len _ _ _, by show 2 * (plt (fq k l Y)).length + _ ≤ _; omega⟩
        refine pre 1 M1 (GX.k0 k6) hm1 he hi (d_trial (GX.k0 k6) hm1 hw he hi fun M7 g7 hm7 b43 b44 b45 _ => ⟨fun _ => ?_, fun h => absurd h hne⟩)
        rintro i7 rfl
        rw [b45 hh, b43, b44]
        have hP7 := hm7.2.2.1 _ _ hqA
        rw [etk] at hP7
        refine ⟨fun h => by omega, fun _ => ?_⟩
        rw [show ((fpc k Y : Nat) : Int).toNat = fpc k Y by omega, hP7.1.2.1, w75, w84, show (((ksum (l.take (fpc k Y)) : Nat) : Int) + ((fi k l Y : Nat) : Int)).toNat = ksum (l.take (fpc k Y)) + fi k l Y by omega]
        refine ⟨by omega, by omega, by omega, by omega, ?_⟩
        rintro M10 rfl
        have A10 := hm7.2.2.1.setDr (d := 1) hqA hfi
        rw [etk, ← flat_set q3] at A10
        have g10 : Ag (fun b => AgR b ∨ b = 95) M7 (pI M7 84 (ksum (l.take (fpc k Y)) + fi k l Y) 1) := (Ag.refl (S := fun b => AgR b ∨ b = 95)).pI (Or.inl (Or.inr (by omega)))
        have g10' : Ag (· = 84) M7 (pI M7 84 (ksum (l.take (fpc k Y)) + fi k l Y) 1) := (Ag.refl (S := (· = 84))).pI rfl
        have GG : Ag (fun b => 69 ≤ b ∧ b < 97) M1 (pI M7 84 (ksum (l.take (fpc k Y)) + fi k l Y) 1) := (g7.mono fun b hb => by unfold AgF at hb; omega).trans (g10'.mono fun b hb => by omega)
        have hne2 : l.set (fpc k Y) (setD (fq k l Y) (fi k l Y) 1) ≠ [] := fun e => he (by have := congrArg List.length e; rw [List.length_set] at this; exact List.eq_nil_of_length_eq_zero this)
        have m23'' := hm7.1.2.2.2.1
        rw [if_neg he] at m23''
        exact ⟨rfl, r, E, _, Y, mk_, an, w, lk, hc1.ag GG (fun b hb => by omega), hm7.anew g10 (fun j _ => g10'.I (by omega) j) (by rw [g10'.I (by omega)]; exact hm7.1.2.2.1) (by rw [if_neg hne2, g10'.I (by omega)]; exact m23'') (by rw [g10'.I (by omega)]; exact hm7.1.2.2.2.2.1) (by rw [g10'.I (by omega)]; exact hm7.1.2.2.2.2.2.1) A10 (hm7.2.2.2.1.ag g10' (by omega) (by omega)).set, hwl⟩
      · -- a late key
        have e0 : fans k l Y = (fls k l Y).2.2 := by unfold fans; rw [if_neg hh]
        have e1 : (fls k l Y).2.2 = 1 := by omega
        obtain ⟨s1, s2, s3, s4⟩ := lsc_spec (tf (fq k l Y)) k (plt (fq k l Y)).length
        have s3 := s3 e1
        have sle := (lsc_le (tf (fq k l Y)) k (plt (fq k l Y)).length).1
        have ed : lsc (tf (fq k l Y)) k (plt (fq k l Y)).length = fls k l Y := rfl
        rw [ed] at s3 sle
        have hj : (fls k l Y).1 - 1 < (plt (fq k l Y)).length := by omega
        have dl := delL_len hj
        rintro r12 rfl
        refine ⟨t, C6.2.1, TL_O ht k6, ?_⟩
        rw [a4, a6 hh, show ((tsum (l.take (fpc k Y)) + (fls k l Y).1 : Nat) : Int) - 1 = ((tsum (l.take (fpc k Y)) + ((fls k l Y).1 - 1) : Nat) : Int) by omega]
        refine ⟨by omega, c_takeLate k6 ht P6 T6 (by omega) (by omega) hq hj fun M14 F14 P14 T14 => ?_⟩
        obtain ⟨x1, x2, x3, x4⟩ := F14.X ht h12 (fun b h => h.elim) P14
        have ml := mq_len_delL hj
        have gl := GT_len_set (q' := delL (fq k l Y) ((fls k l Y).1 - 1)) hq
        have e7 : gI M14 0 7 = (GT l).length := by rw [x2]; exact hc6.2.2.2.2.1.2.2.1
        rw [e7]
        refine ⟨by omega, ?_⟩
        rintro M1 rfl
        have g1 : Ag (· = 0) M14 (pI M14 0 7 (((GT l).length : Int) - 1)) := (Ag.refl (S := (· = 0))).pI rfl
        have b7 : gI (pI M14 0 7 (((GT l).length : Int) - 1)) 0 7 = ((GT l).length : Int) - 1 := by simp [gI_pI, gI_pL, gI_pD, gI_pR, gI_pnw, gI_pcp, gL_pI, gL_pL, gL_pD, gL_pR, gL_pnw, gL_pcp, gD_pI, gD_pL, gD_pD, gD_pR, gD_pnw, gD_pcp, gR_pI, gR_pL, gR_pD, gR_pR, gR_pnw, gR_pcp, gz_pI, gz_pL, gz_pD, gz_pR, gz_pnw, gz_pcp]
        have bo : ∀ j, j ≠ 7 → gI (pI M14 0 7 (((GT l).length : Int) - 1)) 0 j = gI M6 0 j := fun j hj => by simp only [gI_pI, gI_pL, gI_pD, gI_pR, gI_pnw, gI_pcp, gL_pI, gL_pL, gL_pD, gL_pR, gL_pnw, gL_pcp, gD_pI, gD_pL, gD_pD, gD_pR, gD_pnw, gD_pcp, gR_pI, gR_pL, gR_pD, gR_pR, gR_pnw, gR_pcp, gz_pI, gz_pL, gz_pD, gz_pR, gz_pnw, gz_pcp]; rw [if_neg (by omega)]; exact x2 j
        have bR : ∀ j, gR (pI M14 0 7 (((GT l).length : Int) - 1)) 0 j = gR M6 0 j := fun j => x3 j
        generalize pI M14 0 7 (((GT l).length : Int) - 1) = M1 at g1 b7 bo bR
        have GX : AgL IX M6 M1 := x1.trans (g1.mono fun b hb => Or.inl hb).toL
        have P1 : Pool M1 := P14.ag g1 (fun v hv => by have := TL_facts v hv; omega)
        have ft := TL_facts t ht
        have T1 : TR M1 t (l.set (fpc k Y) (delL (fq k l Y) ((fls k l Y).1 - 1))) := T14.ag g1 (fun b h1 h2 => by omega) (fun b hb => by omega)
        have L1 : Lay M1 Y := (hc6.2.2.2.1.frI f8 ht h12 F14 P14).ixAg g1 (fun b hb => by omega) (by rw [bo 6 (by omega), x2])
        have hc1 : CI M1 r E (l.set (fpc k Y) (delL (fq k l Y) ((fls k l Y).1 - 1))) Y mk_ an w lk := hc6.anew GX P1 ⟨C6.1, by rw [bR]; exact C6.2.1, by rw [bR]; exact C6.2.2⟩ T1 L1 ⟨bo 1 (by omega), bo 2 (by omega)⟩ (by rw [b7]; omega) (by rw [bo 8 (by omega)]; exact hc6.2.2.2.2.1.2.2.2.1) (by rw [bo 9 (by omega)]; exact hc6.2.2.2.2.1.2.2.2.2)
        have hm1 := IX_m GX hm6
        have hwl : WF (n + 1) r E (l.set (fpc k Y) (delL (fq k l Y) ((fls k l Y).1 - 1))) Y mk_ an w lk := hw.set hn hq (WL_sub hw.2.2.2.1 hq (pgd_delL hgd hj) (fun x hx => vals_delL hx) rfl (fun t ht => plt_delL ht)) rfl (by omega) (by omega) ⟨rfl, by omega⟩
        refine pre 1 M1 (GX.k0 k6) hm1 he hi (d_trial (GX.k0 k6) hm1 hw he hi fun M7 g7 hm7 b43 b44 _ b45 => ⟨fun _ => ?_, fun h => absurd h hne⟩)
        rintro i7 rfl
        have eL : lateI (fls k l Y) = (((fls k l Y).1 - 1 : Nat) : Int) := by unfold lateI; rw [if_pos e1]; omega
        rw [b45 hh, b43, eL]
        have hP7 := hm7.2.2.1 _ _ hqA
        refine ⟨fun _ => ?_, fun h => by omega⟩
        rw [show ((fpc k Y : Nat) : Int).toNat = fpc k Y by omega, hP7.1.2.2.2.2, w78]
        refine ⟨by omega, by omega, by omega, ?_⟩
        rintro M8 rfl
        have e45 : gI (pI M7 78 (fpc k Y) (((plt (fq k l Y)).length : Int) - 1)) 69 45 = (((fls k l Y).1 - 1 : Nat) : Int) := by simp only [gI_pI, gI_pL, gI_pD, gI_pR, gI_pnw, gI_pcp, gL_pI, gL_pL, gL_pD, gL_pR, gL_pnw, gL_pcp, gD_pI, gD_pL, gD_pD, gD_pR, gD_pnw, gD_pcp, gR_pI, gR_pL, gR_pD, gR_pR, gR_pnw, gR_pcp, gz_pI, gz_pL, gz_pD, gz_pR, gz_pnw, gz_pcp]; rw [if_neg (by omega), b45 hh, eL]
        rw [e45]
        rintro i9 rfl
        have g8 : Ag (· = 78) M7 (pI M7 78 (fpc k Y) (((plt (fq k l Y)).length : Int) - 1)) := (Ag.refl (S := (· = 78))).pI rfl
        have a78 : ∀ x, gI (pI M7 78 (fpc k Y) (((plt (fq k l Y)).length : Int) - 1)) 78 x = if x = fpc k Y then ((plt (fq k l Y)).length : Int) - 1 else gI M7 78 x := fun x => by simp [gI_pI, gI_pL, gI_pD, gI_pR, gI_pnw, gI_pcp, gL_pI, gL_pL, gL_pD, gL_pR, gL_pnw, gL_pcp, gD_pI, gD_pL, gD_pD, gD_pR, gD_pnw, gD_pcp, gR_pI, gR_pL, gR_pD, gR_pR, gR_pnw, gR_pcp, gz_pI, gz_pL, gz_pD, gz_pR, gz_pnw, gz_pcp]
        generalize pI M7 78 (fpc k Y) (((plt (fq k l Y)).length : Int) - 1) = M8 at g8 a78
        refine ⟨(plt (fq k l Y)).length - 1 - ((fls k l Y).1 - 1) + 1, ?_⟩
        refine d_drop_77 (p := fpc k Y) (n := (plt (fq k l Y)).length - 1) (by omega) (by omega) _ ((fls k l Y).1 - 1) (by omega) (by rw [a78, if_pos rfl]; omega) fun M9 g9 h9 o9 => ?_
        have gA : Ag (fun b => b = 69 ∨ b = 78 ∨ b = 83) M7 M9 := (g8.mono fun b hb => Or.inr (Or.inl hb)).trans (g9.mono fun b hb => Or.inr (Or.inr hb))
        have gB : Ag (fun b => b = 78 ∨ b = 83) M7 M9 := (g8.mono fun b hb => Or.inl hb).trans (g9.mono fun b hb => Or.inr hb)
        have A9 : MA M9 ((l :: Y).flatten.set (fpc k Y) (delL (fq k l Y) ((fls k l Y).1 - 1))) := by
          refine hm7.2.2.1.setL hqA rfl rfl gA (fun x hx => by rw [g9.I (by omega), a78, if_neg hx]) (by rw [g9.I (by omega), a78, if_pos rfl]; omega) (fun i hi' => ?_) (fun j hj' => by rw [o9 j (by omega), g8.L (by omega)]) (fun x y hx hy => ?_)
          · rw [tf_del hj]
            by_cases c : i < (fls k l Y).1 - 1
            · rw [if_pos c, o9 _ (by omega), g8.L (by omega)]
              exact hP7.2.2.2 i (by omega)
            · rw [if_neg c, h9 i (by omega) (by omega), g8.L (by omega)]
              exact hP7.2.2.2 (i + 1) (by omega)
          · rw [List.flatten_cons, List.getElem?_append_left (by omega)] at hy
            have := hw.2.2.2.2.1 y (List.mem_of_getElem? hy)
            omega
        rw [← flat_set q3] at A9
        have GG : Ag (fun b => 69 ≤ b ∧ b < 97) M1 M9 := (g7.mono fun b hb => by unfold AgF at hb; omega).trans (gB.mono fun b hb => by omega)
        have hne2 : l.set (fpc k Y) (delL (fq k l Y) ((fls k l Y).1 - 1)) ≠ [] := fun e => he (by have := congrArg List.length e; rw [List.length_set] at this; exact List.eq_nil_of_length_eq_zero this)
        have m23'' := hm7.1.2.2.2.1
        rw [if_neg he] at m23''
        exact ⟨rfl, r, E, _, Y, mk_, an, w, lk, hc1.ag GG (fun b hb => by omega), hm7.anew (gB.mono fun b hb => Or.inl (by unfold AgR; omega)) (fun j _ => gB.I (by omega) j) (by rw [gB.I (by omega)]; exact hm7.1.2.2.1) (by rw [if_neg hne2, gB.I (by omega)]; exact m23'') (by rw [gB.I (by omega)]; exact hm7.1.2.2.2.2.1) (by rw [gB.I (by omega)]; exact hm7.1.2.2.2.2.2.1) A9 (hm7.2.2.2.1.ag gB (by omega) (by omega)).set, hwl⟩
    · exact pre 0 M6 k6 hm6 he hi (d_trial k6 hm6 hw he hi fun M7 g7 hm7 _ _ _ _ => ⟨fun h => absurd h0 h, fun _ => ⟨rfl, Good.same (hc6.ag g7 (fun b hb => by unfold AgF at hb; omega)) hm7 hw hn⟩⟩)
  · unfold sp_X5_drop
    exact ⟨iO_c hk (by decide) rfl, fun _ => d_isKey hk (fun h => absurd h hi) (fun _ => ⟨fun h => absurd rfl h, fun _ => ⟨rfl, G⟩⟩), fun h0 => absurd (m23.mp h0) he⟩
  · unfold sp_X5_drop
    exact ⟨iO_c hk (by decide) rfl, fun h => absurd (m23.mpr he) h, fun _ => ⟨rfl, G⟩⟩
