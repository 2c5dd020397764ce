/-! ===== find, check; at, below, above, between ===== -/
theorem nat1 {w : List Int} : ((w.length : Nat) : Int) = 0 ↔ w = [] := ⟨fun h => List.eq_nil_of_length_eq_zero (by omega), fun h => by rw [h]; rfl⟩
theorem ftold_len (k : Int) (l : List Pc) (Y : List (List Pc)) : (ftold k l Y).length = 3 * Y.length + 4 := by
  unfold ftold
  rw [List.length_append, List.length_append, walk_len]
  simp
theorem ftold_ne (k : Int) (l : List Pc) (Y : List (List Pc)) : ftold k l Y ≠ [] := fun h => by have := ftold_len k l Y; rw [h] at this; simp at this
theorem d_find_45 {v : Int} {w : List Int} {Q : Int → Im → Prop} {K74 : Nat → Int → Im → Prop} (hl : w.length ≤ 64) :
    ∀ (d i : Nat) {M : Im}, i + d = w.length → gI M 69 39 = w.length → (∀ j x, w[j]? = some x → gI M 95 j = x) → (∀ M', Ag (· = 96) M M' → (∀ j x, i ≤ j → w[j]? = some x → gI M' 96 j = x) → (∀ j, j < i → gI M' 96 j = gI M 96 j) → K74 69 v M') → sp_X5_find_45 (d + 1) 69 v i M Q K74
  | 0, i, M, h, h39, hr, hQ => by
    unfold sp_X5_find_45
    rw [h39]
    exact ⟨fun _ => hQ M Ag.refl (fun j x h1 h2 => by have := (List.getElem?_eq_some_iff.mp h2).1; omega) (fun _ _ => rfl), fun h => by omega⟩
  | d + 1, i, M, h, h39, hr, hQ => by
    have w95 : alen 95 = 64 := rfl
    have w96 : alen 96 = 64 := rfl
    have e := List.getElem?_eq_getElem (l := w) (i := i) (by omega)
    unfold sp_X5_find_45
    rw [h39, w95, w96, show ((i : Nat) : Int).toNat = i by omega, hr _ _ e]
    refine ⟨fun h => by omega, fun _ => ⟨by omega, by omega, ?_⟩⟩
    rintro M1 rfl
    refine ⟨by omega, ?_⟩
    rintro i2 rfl
    rw [show (i : Int) + 1 = ((i + 1 : Nat) : Int) by omega]
    generalize w[i] = x at *
    have g : Ag (· = 96) M (pI M 96 i x) := (Ag.refl (S := (· = 96))).pI rfl
    refine d_find_45 hl d (i + 1) (by omega) (by rw [g.I (by omega)]; exact h39) (fun j y hy => by rw [g.I (by omega)]; exact hr j y hy) fun M' g' h1' h2' => hQ M' (g.trans g') (fun j y j1 hy => ?_) (fun j hj => ?_)
    · by_cases c : j = i
      · subst c
        rw [e] at hy
        cases hy
        rw [h2' j (by omega)]; simp [gI_pI, gI_pL, gI_pD, gI_pR, gI_pnw, gI_pcp, gL_pI, gL_pL, gL_pD, gL_pR, gL_pnw, gL_pcp, gD_pI, gD_pL, gD_pD, gD_pR, gD_pnw, gD_pcp, gR_pI, gR_pL, gR_pD, gR_pR, gR_pnw, gR_pcp, gz_pI, gz_pL, gz_pD, gz_pR, gz_pnw, gz_pcp]
      · exact h1' j y (by omega) hy
    · rw [h2' j (by omega)]
      simp only [gI_pI, gI_pL, gI_pD, gI_pR, gI_pnw, gI_pcp, gL_pI, gL_pL, gL_pD, gL_pR, gL_pnw, gL_pcp, gD_pI, gD_pL, gD_pD, gD_pR, gD_pnw, gD_pcp, gR_pI, gR_pL, gR_pD, gR_pR, gR_pnw, gR_pcp, gz_pI, gz_pL, gz_pD, gz_pR, gz_pnw, gz_pcp]; rw [if_neg (by omega)]
theorem CI.found {M M' : Im} {r : List Int} {E : Int} {l : List Pc} {Y : List (List Pc)} {mk_ an : Int} {w w' : List Int} {lk lk' : Nat} (h : CI M r E l Y mk_ an w lk) (g : Ag (fun b => b = 13 ∨ b = 14) M M') (hw : TW M' 13 w') (hl : gI M' 13 2 = lk') : CI M' r E l Y mk_ an w' lk' := by
  obtain ⟨a0, a1, ⟨t, t', a2, a3⟩, a4, a5, a6, a7, a8⟩ := h
  obtain ⟨ht, ht', -⟩ := a2.TL
  have oT : ∀ u, u ∈ TL → ∀ b, u ≤ b → b ≤ u + 4 → ¬ (b = 13 ∨ b = 14) := fun u hu b hb1 hb2 w => by
    have f := TL_facts u hu
    obtain ⟨-, -, -, -, -, f1, f2, -, -, -, f3, f4, f5⟩ := f
    omega
  refine ⟨g.k0 a0, a1.ag g (fun u hu => oT u hu (u + 4) (by omega) (by omega)), ⟨t, t', ⟨a2.1, by rw [g.R (by omega)]; exact a2.2.1, by rw [g.R (by omega)]; exact a2.2.2⟩, a3.ag g (oT t ht) (fun b hb => by omega)⟩, ?_, by simp only [g.I (show ¬ ((0 : Nat) = 13 ∨ (0 : Nat) = 14) by omega)]; exact a5, fun i v hv => by rw [g.L (by omega)]; exact a6 i v hv, hw, hl⟩
  refine ⟨by rw [g.I (by omega)]; exact a4.1, a4.2.1, fun i y hy => ?_⟩
  have := (List.getElem?_eq_some_iff.mp hy).1
  have hl := a4.2.1
  exact (a4.2.2 i y hy).ag g (oT _ (UT_in (by omega))) (fun b hb => by omega)
theorem MI.found {M M' : Im} {r : List Int} {E : Int} {l : List Pc} {Y : List (List Pc)} {mk_ an : Int} {w w' : List Int} {lk lk' : Nat} (h : MI M r E l Y mk_ an w lk) (g : Ag (fun b => b = 69 ∨ b = 95 ∨ b = 96) M M') (hI : ∀ j, j = 1 ∨ j = 2 ∨ j = 9 ∨ j = 23 ∨ j = 24 ∨ j = 25 → gI M' 69 j = gI M 69 j) (h40 : gI M' 69 40 = w'.length) (h42 : gI M' 69 42 = lk') (h46 : gI M' 69 46 = (if w' = [] then 0 else 1)) (h96 : ∀ j v, w'[j]? = some v → gI M' 96 j = v) : MI M' r E l Y mk_ an w' lk' := by
  obtain ⟨⟨b1, b2, b9, b23, b24, b25, -, -, -⟩, a2, a3, a4, a5⟩ := h
  exact ⟨⟨by rw [hI 1 (by omega)]; exact b1, by rw [hI 2 (by omega)]; exact b2, by rw [hI 9 (by omega)]; exact b9, by rw [hI 23 (by omega)]; exact b23, by rw [hI 24 (by omega)]; exact b24, by rw [hI 25 (by omega)]; exact b25, h40, h42, h46⟩, fun i v hv => by rw [g.L (by omega)]; exact a2 i v hv, a3.ag g (fun b h1 h2 => by omega), a4.ag g (by omega) (by omega), h96⟩
/-- the model's refusals ahead of a find -/
theorem m23_iff {M : Im} {l : List Pc} (h : gI M 69 23 = if l = [] then 0 else 1) : gI M 69 23 = 0 ↔ l = [] := by
  rw [h]
  by_cases c : l = []
  · rw [if_pos c]; exact ⟨fun _ => c, fun _ => rfl⟩
  · rw [if_neg c]; exact ⟨fun w => by omega, fun w => absurd w c⟩
theorem st_find {n : Nat} {M : Im} (h : Good n M) (hn : n < 512) (k : Int) : sp_X4_find 0 k M (fun z M1 => sp_X5_find 69 k M1 (Fin_ n z)) := by
  obtain ⟨r, E, l, Y, mk_, an, w, lk, hc, hm, hw⟩ := h
  have G := Good.same hc hm hw hn
  obtain ⟨f1, f2, f3, f4, f5, f6, f7, f8, f9, f10⟩ := hw.facts
  obtain ⟨hk, hP, ⟨t, t', hC, hT⟩, hL, -, -, hTW, hlk⟩ := id hc
  obtain ⟨ht, ht', -, -, -, hcap, -, h300, -⟩ := hC.TL
  have m23 := m23_iff hm.1.2.2.2.1
  have bad : ¬ inR k → l ≠ [] → sp_X5_find 69 k M (Fin_ n (-2)) := fun h he => by
    unfold sp_X5_find
    exact ⟨iO_c hk (by decide) rfl, fun _ => d_isKey hk (fun hi => absurd hi h) (fun _ => ⟨fun h => absurd rfl h, fun _ => ⟨rfl, G⟩⟩), fun h0 => absurd (m23.mp h0) he⟩
  unfold sp_X4_find
  refine ⟨iO_c hk (by decide) rfl, c_hasIndex hk hC hT (fun he => ⟨fun _ => c_isKey (fun hi => ⟨fun _ => ?_, fun h => (by omega)⟩) (fun hi => ⟨fun h => absurd rfl h, fun _ => bad hi he⟩), fun h => (by omega)⟩) (fun he => ⟨fun h => absurd rfl h, fun _ => ?_⟩)⟩
  · obtain ⟨q1, q2, q3⟩ := hw.find he k
    rintro r5 rfl
    rw [hC.2.1, hL.1]
    refine c_follow hk (Or.inl rfl) hi ht hT (by omega) (by omega) (by omega) f5 hL f8 q1 fun M6 g6 w6 l6 a6 p6 _ _ _ lkb => ?_
    rw [a6]
    have hc6 : CI M6 r E l Y mk_ an (ftold k l Y) (flooks k l Y) := hc.found g6 w6 l6
    have hm6 := hm.ag g6 (fun b hb => by omega)
    have k6 := g6.k0 hk
    have m23' := m23_iff hm6.1.2.2.2.1
    unfold sp_X5_find
    refine ⟨iO_c k6 (by decide) rfl, fun _ => d_isKey k6 (fun _ => ⟨fun _ => ?_, fun h => (by omega)⟩) (fun h => absurd hi h), fun h0 => absurd (m23'.mp h0) he⟩
    refine d_found k6 hi f7 (fun q hq => by have := hw.2.2.2.2.1 q hq; omega) hm6.2.2.1 hm6.2.2.2.1 hm6.1.2.2.1 q1 f9 fun M7 g7 o7 w7 l7 _ _ _ _ => ?_
    rintro M8 rfl M9 rfl
    have e39 : gI (pI M7 69 42 (gI M7 69 41)) 69 39 = ((ftold k l Y).length : Nat) := by simp only [gI_pI, gI_pL, gI_pD, gI_pR, gI_pnw, gI_pcp, gL_pI, gL_pL, gL_pD, gL_pR, gL_pnw, gL_pcp, gD_pI, gD_pL, gD_pD, gD_pR, gD_pnw, gD_pcp, gR_pI, gR_pL, gR_pD, gR_pR, gR_pnw, gR_pcp, gz_pI, gz_pL, gz_pD, gz_pR, gz_pnw, gz_pcp]; rw [if_neg (by omega)]; exact w7.1
    rw [e39, l7]
    refine ⟨(ftold k l Y).length + 1, ?_⟩
    have G9 : Ag (fun b => b = 69 ∨ b = 95 ∨ b = 96) M6 (pI (pI M7 69 42 (flooks k l Y : Nat)) 69 40 ((ftold k l Y).length : Nat)) := ((g7.mono (S' := fun b => b = 69 ∨ b = 95 ∨ b = 96) (fun b hb => by unfold AgF at hb; omega)).pI (Or.inl rfl)).pI (Or.inl rfl)
    have a39 : gI (pI (pI M7 69 42 (flooks k l Y : Nat)) 69 40 ((ftold k l Y).length : Nat)) 69 39 = ((ftold k l Y).length : Nat) := by simp only [gI_pI, gI_pL, gI_pD, gI_pR, gI_pnw, gI_pcp, gL_pI, gL_pL, gL_pD, gL_pR, gL_pnw, gL_pcp, gD_pI, gD_pL, gD_pD, gD_pR, gD_pnw, gD_pcp, gR_pI, gR_pL, gR_pD, gR_pR, gR_pnw, gR_pcp, gz_pI, gz_pL, gz_pD, gz_pR, gz_pnw, gz_pcp]; rw [if_neg (by omega), if_neg (by omega)]; exact w7.1
    have a40 : gI (pI (pI M7 69 42 (flooks k l Y : Nat)) 69 40 ((ftold k l Y).length : Nat)) 69 40 = ((ftold k l Y).length : Nat) := by simp [gI_pI, gI_pL, gI_pD, gI_pR, gI_pnw, gI_pcp, gL_pI, gL_pL, gL_pD, gL_pR, gL_pnw, gL_pcp, gD_pI, gD_pL, gD_pD, gD_pR, gD_pnw, gD_pcp, gR_pI, gR_pL, gR_pD, gR_pR, gR_pnw, gR_pcp, gz_pI, gz_pL, gz_pD, gz_pR, gz_pnw, gz_pcp]
    have a42 : gI (pI (pI M7 69 42 (flooks k l Y : Nat)) 69 40 ((ftold k l Y).length : Nat)) 69 42 = (flooks k l Y : Nat) := by simp [gI_pI, gI_pL, gI_pD, gI_pR, gI_pnw, gI_pcp, gL_pI, gL_pL, gL_pD, gL_pR, gL_pnw, gL_pcp, gD_pI, gD_pL, gD_pD, gD_pR, gD_pnw, gD_pcp, gR_pI, gR_pL, gR_pD, gR_pR, gR_pnw, gR_pcp, gz_pI, gz_pL, gz_pD, gz_pR, gz_pnw, gz_pcp]
    have ao : ∀ j, j = 1 ∨ j = 2 ∨ j = 9 ∨ j = 23 ∨ j = 24 ∨ j = 25 → gI (pI (pI M7 69 42 (flooks k l Y : Nat)) 69 40 ((ftold k l Y).length : Nat)) 69 j = gI M6 69 j := fun j hj => by
      simp only [gI_pI, gI_pL, gI_pD, gI_pR, gI_pnw, gI_pcp, gL_pI, gL_pL, gL_pD, gL_pR, gL_pnw, gL_pcp, gD_pI, gD_pL, gD_pD, gD_pR, gD_pnw, gD_pcp, gR_pI, gR_pL, gR_pD, gR_pR, gR_pnw, gR_pcp, gz_pI, gz_pL, gz_pD, gz_pR, gz_pnw, gz_pcp]; rw [if_neg (by omega), if_neg (by omega)]; exact o7 j (by omega) (by omega) (by omega) (by omega) (by omega)
    have a95 : ∀ j v, (ftold k l Y)[j]? = some v → gI (pI (pI M7 69 42 (flooks k l Y : Nat)) 69 40 ((ftold k l Y).length : Nat)) 95 j = v := fun j v hv => by simp only [gI_pI, gI_pL, gI_pD, gI_pR, gI_pnw, gI_pcp, gL_pI, gL_pL, gL_pD, gL_pR, gL_pnw, gL_pcp, gD_pI, gD_pL, gD_pD, gD_pR, gD_pnw, gD_pcp, gR_pI, gR_pL, gR_pD, gR_pR, gR_pnw, gR_pcp, gz_pI, gz_pL, gz_pD, gz_pR, gz_pnw, gz_pcp]; rw [if_neg (by omega), if_neg (by omega)]; exact w7.2 j v hv
    generalize pI (pI M7 69 42 (flooks k l Y : Nat)) 69 40 ((ftold k l Y).length : Nat) = M9 at G9 a39 a40 a42 ao a95
    have fl := ftold_len k l Y
    refine d_find_45 (by omega) (ftold k l Y).length 0 (by omega) a39 a95 fun M10 g10 h10 _ => ?_
    rintro M3 rfl
    have G3 : Ag (fun b => b = 69 ∨ b = 95 ∨ b = 96) M6 (pI M10 69 46 1) := (G9.trans (g10.mono fun b hb => Or.inr (Or.inr hb))).pI (Or.inl rfl)
    have fin : ∀ u, u = fans k l Y → Fin_ n (fans k l Y) u (pI M10 69 46 1) := fun u hu => by
      refine ⟨hu.symm, r, E, l, Y, mk_, an, ftold k l Y, flooks k l Y, hc6.ag G3 (fun b hb => by omega), hm6.found G3 (fun j hj => ?_) ?_ ?_ ?_ (fun j v hv => ?_), ?_⟩
      · simp only [gI_pI, gI_pL, gI_pD, gI_pR, gI_pnw, gI_pcp, gL_pI, gL_pL, gL_pD, gL_pR, gL_pnw, gL_pcp, gD_pI, gD_pL, gD_pD, gD_pR, gD_pnw, gD_pcp, gR_pI, gR_pL, gR_pD, gR_pR, gR_pnw, gR_pcp, gz_pI, gz_pL, gz_pD, gz_pR, gz_pnw, gz_pcp]; rw [if_neg (by omega), g10.I (by omega)]; exact ao j hj
      · simp only [gI_pI, gI_pL, gI_pD, gI_pR, gI_pnw, gI_pcp, gL_pI, gL_pL, gL_pD, gL_pR, gL_pnw, gL_pcp, gD_pI, gD_pL, gD_pD, gD_pR, gD_pnw, gD_pcp, gR_pI, gR_pL, gR_pD, gR_pR, gR_pnw, gR_pcp, gz_pI, gz_pL, gz_pD, gz_pR, gz_pnw, gz_pcp]; rw [if_neg (by omega), g10.I (by omega)]; exact a40
      · simp only [gI_pI, gI_pL, gI_pD, gI_pR, gI_pnw, gI_pcp, gL_pI, gL_pL, gL_pD, gL_pR, gL_pnw, gL_pcp, gD_pI, gD_pL, gD_pD, gD_pR, gD_pnw, gD_pcp, gR_pI, gR_pL, gR_pD, gR_pR, gR_pnw, gR_pcp, gz_pI, gz_pL, gz_pD, gz_pR, gz_pnw, gz_pcp]; rw [if_neg (by omega), g10.I (by omega)]; exact a42
      · rw [if_neg (ftold_ne k l Y)]; simp [gI_pI, gI_pL, gI_pD, gI_pR, gI_pnw, gI_pcp, gL_pI, gL_pL, gL_pD, gL_pR, gL_pnw, gL_pcp, gD_pI, gD_pL, gD_pD, gD_pR, gD_pnw, gD_pcp, gR_pI, gR_pL, gR_pD, gR_pR, gR_pnw, gR_pcp, gz_pI, gz_pL, gz_pD, gz_pR, gz_pnw, gz_pcp]
      · simp only [gI_pI, gI_pL, gI_pD, gI_pR, gI_pnw, gI_pcp, gL_pI, gL_pL, gL_pD, gL_pR, gL_pnw, gL_pcp, gD_pI, gD_pL, gD_pD, gD_pR, gD_pnw, gD_pcp, gR_pI, gR_pL, gR_pD, gR_pR, gR_pnw, gR_pcp, gz_pI, gz_pL, gz_pD, gz_pR, gz_pnw, gz_pcp]; rw [if_neg (by omega)]; exact h10 j v (Nat.zero_le _) hv
      · have hw1 := hw.next hn
        obtain ⟨v0, v1, v2, v3, v4, v5, v6, v7, v8, v9, -, -⟩ := hw1
        exact ⟨v0, v1, v2, v3, v4, v5, v6, v7, v8, v9, by omega, lkb⟩
    have f01 := fans01 k l Y
    exact ⟨fun h => fin 0 h.symm, fun h => fin 1 (by omega)⟩
  · unfold sp_X5_find
    exact ⟨iO_c hk (by decide) rfl, fun h => absurd (m23.mpr he) h, fun _ => ⟨rfl, G⟩⟩
/-! check -/
theorem d_check_54 {v x4 : Int} {w u : List Int} {Q : Int → Im → Prop} {K98 : Int → Int → Im → Prop} {M : Im} (hl : w.length ≤ 64) (hu : u.length ≤ 64) (h39 : gI M 69 39 = w.length) (hw : ∀ j x, w[j]? = some x → gI M 95 j = x) (hx : ∀ j x, u[j]? = some x → gI M 96 j = x) (q1 : w = u → K98 v 1 M) (q0 : w ≠ u → K98 v 0 M) :
    ∀ (d i : Nat), i + d = w.length → (w.length = u.length ∧ w.take i = u.take i ∧ x4 = 1 ∨ w ≠ u ∧ x4 = 0) → sp_X5_check_54 (d + 1) 69 v x4 i M Q K98
  | 0, i, h, hd => by
    unfold sp_X5_check_54
    rw [h39]
    refine ⟨fun _ => ?_, fun h => by omega⟩
    rcases hd with ⟨h1, h2, rfl⟩ | ⟨h1, rfl⟩
    · rw [List.take_of_length_le (by omega), List.take_of_length_le (by omega)] at h2
      exact q1 h2
    · exact q0 h1
  | d + 1, i, h, hd => by
    have w95 : alen 95 = 64 := rfl
    have w96 : alen 96 = 64 := rfl
    unfold sp_X5_check_54
    rw [h39]
    refine ⟨fun h => by omega, fun _ => ⟨fun h0 => ?_, fun h0 => ?_⟩⟩
    · subst h0
      rcases hd with ⟨h1, h2, h3⟩ | ⟨h1, -⟩
      · omega
      · exact q0 h1
    · rcases hd with ⟨h1, h2, rfl⟩ | ⟨h1, rfl⟩
      · have e1 := List.getElem?_eq_getElem (l := w) (i := i) (by omega)
        have e2 := List.getElem?_eq_getElem (l := u) (i := i) (by omega)
        rw [w95, w96, show ((i : Nat) : Int).toNat = i by omega, hw _ _ e1, hx _ _ e2]
        refine ⟨by omega, by omega, fun hne => ?_, fun he => ?_⟩
        · unfold sp_X5_check_90
          refine ⟨by omega, ?_⟩
          rintro i1 rfl
          rw [show (i : Int) + 1 = ((i + 1 : Nat) : Int) by omega]
          exact d_check_54 hl hu h39 hw hx q1 q0 d (i + 1) (by omega) (Or.inr ⟨fun e => hne (by subst e; rfl), rfl⟩)
        · unfold sp_X5_check_90
          refine ⟨by omega, ?_⟩
          rintro i1 rfl
          rw [show (i : Int) + 1 = ((i + 1 : Nat) : Int) by omega]
          exact d_check_54 hl hu h39 hw hx q1 q0 d (i + 1) (by omega) (Or.inl ⟨h1, by rw [List.take_add_one, List.take_add_one, h2, e1, e2, he], rfl⟩)
      · omega
theorem st_check {n : Nat} {M : Im} (h : Good n M) (hn : n < 512) (k : Int) : sp_X4_check 0 k M (fun z M1 => sp_X5_check 69 k M1 (Fin_ n z)) := by
  obtain ⟨r, E, l, Y, mk_, an, w, lk, hc, hm, hw⟩ := h
  have G := Good.same hc hm hw hn
  obtain ⟨f1, f2, f3, f4, f5, f6, f7, f8, f9, f10⟩ := hw.facts
  have hwl := hw.2.2.2.2.2.2.2.2.2.2.1
  obtain ⟨hk, hP, ⟨t, t', hC, hT⟩, hL, -, -, hTW, hlk⟩ := id hc
  obtain ⟨ht, ht', -, -, -, hcap, -, h300, -⟩ := hC.TL
  have m23 := m23_iff hm.1.2.2.2.1
  have m46 := hm.1.2.2.2.2.2.2.2.2
  have bad : (¬ inR k ∨ w = []) → l ≠ [] → sp_X5_check 69 k M (Fin_ n (-2)) := fun h he => by
    unfold sp_X5_check
    refine ⟨iO_c hk (by decide) rfl, fun _ => d_isKey hk (fun hi => ⟨fun h => (by omega), fun _ => ⟨fun h' => ?_, fun _ => ⟨rfl, G⟩⟩⟩) (fun _ => ⟨fun _ => ⟨rfl, G⟩, fun h => absurd rfl h⟩), fun h0 => absurd (m23.mp h0) he⟩
    rcases h with h | h
    · exact absurd hi h
    · rw [m46, if_pos h] at h'; exact absurd rfl h'
  unfold sp_X4_check
  refine ⟨iO_c hk (by decide) rfl, c_hasIndex hk hC hT (fun he => ⟨fun _ => c_isKey (fun hi => ⟨fun h => (by omega), fun _ => ?_⟩) (fun hi => ⟨fun _ => bad (Or.inl hi) he, fun h => absurd rfl h⟩), fun h => (by omega)⟩) (fun he => ⟨fun h => absurd rfl h, fun _ => ?_⟩)⟩
  · rw [hTW.1]
    refine ⟨fun h0 => ?_, fun h0 => bad (Or.inr (nat1.mp h0)) he⟩
    have hwn : w ≠ [] := fun e => h0 (nat1.mpr e)
    obtain ⟨q1, q2, q3⟩ := hw.find he k
    rintro r5 rfl
    rw [hC.2.1, hL.1]
    have fl := ftold_len k l Y
    refine c_follow hk (Or.inr rfl) hi ht hT (by omega) (by omega) (by omega) f5 hL f8 q1 fun M6 g6 w6 l6 a6 p6 _ _ _ lkb => ?_
    have hc6 := hc.ag g6 (fun b hb => by omega)
    have hm6 := hm.ag g6 (fun b hb => by omega)
    have k6 := g6.k0 hk
    have f01 := fans01 k l Y
    have mod : ∀ u : Int, (u = if ftold k l Y = w then 2 * fans k l Y + 1 else 2 * fans k l Y) → sp_X5_check 69 k M6 (Fin_ n u) := by
      intro u hu
      have m23' := m23_iff hm6.1.2.2.2.1
      unfold sp_X5_check
      refine ⟨iO_c k6 (by decide) rfl, fun _ => d_isKey k6 (fun _ => ⟨fun h => (by omega), fun _ => ⟨fun _ => ?_, fun h => ?_⟩⟩) (fun h => absurd hi h), fun h0 => absurd (m23'.mp h0) he⟩
      · refine d_found k6 hi f7 (fun q hq => by have := hw.2.2.2.2.1 q hq; omega) hm6.2.2.1 hm6.2.2.2.1 hm6.1.2.2.1 q1 f9 fun M7 g7 o7 w7 l7 _ _ _ _ => ?_
        have hm7 : MI M7 r E l Y mk_ an w lk := hm6.keep (g7.mono fun b hb => by unfold AgF at hb; unfold MS; omega) (fun j hj => o7 j (by omega) (by omega) (by omega) (by omega) (by omega))
        have G7 : Good (n + 1) M7 := Good.same (hc6.ag g7 (fun b hb => by unfold AgF at hb; omega)) hm7 hw hn
        have m40 : gI M7 69 40 = w.length := hm7.1.2.2.2.2.2.2.1
        have x96 : ∀ j v, w[j]? = some v → gI M7 96 j = v := hm7.2.2.2.2
        have last : ∀ s : Int, (s = if ftold k l Y = w then 1 else 0) → ((fans k l Y) = 0 → sp_X5_check_107 s 0 M7 (Fin_ n u)) ∧ (¬ (fans k l Y) = 0 → sp_X5_check_107 s 2 M7 (Fin_ n u)) := by
          intro s hs
          unfold sp_X5_check_107
          by_cases c : ftold k l Y = w
          · rw [if_pos c] at hs hu
            exact ⟨fun h0 => ⟨fun h => by omega, fun _ => ⟨by omega, by omega, G7⟩⟩, fun h0 => ⟨fun h => by omega, fun _ => ⟨by omega, by omega, G7⟩⟩⟩
          · rw [if_neg c] at hs hu
            exact ⟨fun h0 => ⟨fun _ => ⟨by omega, by omega, G7⟩, fun h => by omega⟩, fun h0 => ⟨fun _ => ⟨by omega, by omega, G7⟩, fun h => by omega⟩⟩
        rw [w7.1, m40]
        have go : ∀ x4 : Int, ((ftold k l Y).length = w.length ∧ x4 = 1 ∨ ftold k l Y ≠ w ∧ x4 = 0) → sp_X5_check_49 69 (fans k l Y) x4 M7 (Fin_ n u) := by
          intro x4 hx4
          unfold sp_X5_check_49
          refine ⟨(ftold k l Y).length + 1, ?_⟩
          refine d_check_54 (w := ftold k l Y) (u := w) (by omega) (by omega) w7.1 w7.2 x96 (fun e => last 1 (by rw [if_pos e])) (fun e => last 0 (by rw [if_neg e])) (ftold k l Y).length 0 (by omega) ?_
          rcases hx4 with ⟨a, b⟩ | ⟨a, b⟩
          · exact Or.inl ⟨a, rfl, b⟩
          · exact Or.inr ⟨a, b⟩
        exact ⟨fun hne => go 0 (Or.inr ⟨fun e => hne (by rw [e]), rfl⟩), fun heq => go 1 (Or.inl ⟨by omega, rfl⟩)⟩
      · rw [hm6.1.2.2.2.2.2.2.2.2, if_neg hwn] at h; omega
    rw [a6]
    refine c_same k6 w6 ⟨by rw [g6.I (by omega)]; exact hTW.1, fun j v hv => by rw [g6.I (by omega)]; exact hTW.2 j v hv⟩ (by omega) (fun e => ⟨fun h => (by omega), fun _ => ⟨by omega, by omega, mod _ (by rw [if_pos e])⟩⟩) (fun e => ⟨fun _ => ⟨by omega, by omega, mod _ (by rw [if_neg e]; omega)⟩, fun h => absurd rfl h⟩)
  · unfold sp_X5_check
    exact ⟨iO_c hk (by decide) rfl, fun h => absurd (m23.mpr he) h, fun _ => ⟨rfl, G⟩⟩
/-! the model's keys that are there -/
theorem d_all_7 {l A : List Pc} {Q K37 : Im → Prop} (hpre : l <+: A) (hl : l.length ≤ 590) (hs : ksum l ≤ 590) (hg : (GT l).length ≤ 2000) (hok : ∀ q, q ∈ l → (plt q).length ≤ 16 ∧ dsj q) :
    ∀ (d p : Nat) {M : Im}, p + d = l.length → K0 ≤ gz M → MA M A → gI M 69 23 = (if l = [] then 0 else 1) → gI M 73 0 = l.length → gI M 69 26 = ((GT (l.take p)).length : Nat) → (∀ j x, (GT (l.take p))[j]? = some x → gL M 71 j = x) →
    (∀ M', Ag (fun b => b = 69 ∨ b = 71) M M' → (∀ k, k ≠ 26 → gI M' 69 k = gI M 69 k) → gI M' 69 26 = ((GT l).length : Nat) → (∀ j x, (GT l)[j]? = some x → gL M' 71 j = x) → K37 M') → sp_X5_all_7 (d + 1) 69 p M Q K37 := by
  have w73 : alen 73 = 20 := rfl
  intro d
  induction d with
  | zero =>
    intro p M h hk hA h23 h73 h26 hr hQ
    rw [List.take_of_length_le (by omega)] at h26 hr
    unfold sp_X5_all_7 sp_X5_all_23
    refine ⟨fun _ => ⟨fun _ => hQ M Ag.refl (fun _ _ => rfl) h26 hr, fun h => ?_⟩, fun h0 => ?_⟩
    · omega
    · unfold sp_X5_pieces
      rw [h73, w73]
      exact ⟨iO_c hk (by decide) rfl, by omega, fun _ => hQ M Ag.refl (fun _ _ => rfl) h26 hr, fun h => by omega⟩
  | succ d ih =>
    intro p M h hk hA h23 h73 h26 hr hQ
    have hne : l ≠ [] := fun e => by rw [e] at h; simp at h
    rw [if_neg hne] at h23
    have hq := pcAt_get (l := l) (p := p) (by omega)
    generalize pcAt l p = q at hq
    obtain ⟨o1, o2⟩ := hok q (List.mem_of_getElem? hq)
    obtain ⟨rest, rfl⟩ := id hpre
    have hqA : (l ++ rest)[p]? = some q := by rw [List.getElem?_append_left (by omega)]; exact hq
    have hP := hA _ _ hqA
    rw [List.take_append_of_le_length (by omega)] at hP
    have kin := ksum_in hq
    have gsu := GT_take_succ hq
    have gtl : (GT (l.take (p + 1))).length ≤ (GT l).length := by
      have e : GT l = GT (l.take (p + 1)) ++ GT (l.drop (p + 1)) := by rw [← GT_app, List.take_append_drop]
      rw [e, List.length_append]; omega
    unfold sp_X5_all_7
    rw [h23]
    refine ⟨fun h => by omega, fun _ => ?_⟩
    unfold sp_X5_pieces sp_X5_all_23
    rw [w73]
    refine ⟨iO_c hk (by decide) rfl, by omega, ?_⟩
    dsimp only
    rw [h73]
    refine ⟨fun h => by omega, fun _ => ?_⟩
    refine d_gather (fr := ksum (l.take p)) hk (by omega) (by omega) o1 o2 hP h26 (by omega) fun M3 g3 c3 l3 n3 r3 s3 => ⟨by omega, ?_⟩
    rintro i4 rfl
    rw [show (p : Int) + 1 = ((p + 1 : Nat) : Int) by omega]
    refine ih (p + 1) (by omega) (g3.k0 hk) (hA.ag g3 (fun b h1 h2 => by omega)) (by rw [c3 23 (by omega), if_neg hne]; exact h23) (by rw [g3.I (by omega)]; exact h73) (by rw [n3, gsu]) (fun j x hx => ?_) fun M' g' c' n' r' => hQ M' (g3.trans g') (fun k hk' => (c' k hk').trans (c3 k hk')) n' r'
    rw [take_succ_of hq, GT_app, GT_one] at hx
    rcases Nat.lt_or_ge j (GT (l.take p)).length with w | w
    · rw [List.getElem?_append_left w] at hx
      rw [r3 j w]; exact hr j x hx
    · rw [List.getElem?_append_right w] at hx
      have := s3 _ x hx
      rw [show (GT (l.take p)).length + (j - (GT (l.take p)).length) = j by omega] at this
      exact this
theorem d_all {M : Im} {r : List Int} {E : Int} {l : List Pc} {Y : List (List Pc)} {mk_ an : Int} {w : List Int} {lk n0 : Nat} {Q : Im → Prop} (hk : K0 ≤ gz M) (hm : MI M r E l Y mk_ an w lk) (hw : WF n0 r E l Y mk_ an w lk)
    (hQ : ∀ M', Ag (fun b => b = 69 ∨ b = 71) M M' → MI M' r E l Y mk_ an w lk → gI M' 69 26 = ((GT l).length : Nat) → (∀ j x, (GT l)[j]? = some x → gL M' 71 j = x) → Q M') : sp_X5_all 69 M Q := by
  obtain ⟨f1, f2, f3, f4, f5, f6, f7, f8, f9, f10⟩ := hw.facts
  have hg := hw.2.2.2.2.2.1
  have hmi := hm
  obtain ⟨⟨-, -, -, m23, -⟩, -, hA, hV, -⟩ := hm
  unfold sp_X5_all
  refine ⟨iO_c hk (by decide) rfl, ?_⟩
  rintro M5 rfl
  have g : Ag (fun b => b = 69 ∨ b = 71) M (pI M 69 26 0) := (Ag.refl (S := fun b => b = 69 ∨ b = 71)).pI (Or.inl rfl)
  refine ⟨l.length + 1, ?_⟩
  refine d_all_7 (Q := Q) (K37 := fun M => Q M) (flat_pre l Y) (by omega) (by omega) (by omega) (fun q hq => ⟨by have := hw.2.2.2.2.1 q hq; omega, (hw.2.2.2.1.1 q hq).2.2.2.2.1⟩) l.length 0 (by omega) (g.k0 hk) (hA.ag g (fun b h1 h2 => by omega)) (by simp only [gI_pI, gI_pL, gI_pD, gI_pR, gI_pnw, gI_pcp, gL_pI, gL_pL, gL_pD, gL_pR, gL_pnw, gL_pcp, gD_pI, gD_pL, gD_pD, gD_pR, gD_pnw, gD_pcp, gR_pI, gR_pL, gR_pD, gR_pR, gR_pnw, gR_pcp, gz_pI, gz_pL, gz_pD, gz_pR, gz_pnw, gz_pcp]; rw [if_neg (by omega)]; exact m23) (by rw [g.I (by omega)]; exact (lv73 hV).2) (by simp [gI_pI, gI_pL, gI_pD, gI_pR, gI_pnw, gI_pcp, gL_pI, gL_pL, gL_pD, gL_pR, gL_pnw, gL_pcp, gD_pI, gD_pL, gD_pD, gD_pR, gD_pnw, gD_pcp, gR_pI, gR_pL, gR_pD, gR_pR, gR_pnw, gR_pcp, gz_pI, gz_pL, gz_pD, gz_pR, gz_pnw, gz_pcp, GT]) (fun j x hx => by simp [GT] at hx) fun M' g' c' n' r' => ?_
  refine hQ M' (g.trans g') (hmi.keep ((g.trans g').mono fun b hb => by unfold MS; omega) (fun j hj => ?_)) n' r'
  rw [c' j (by omega)]
  simp only [gI_pI, gI_pL, gI_pD, gI_pR, gI_pnw, gI_pcp, gL_pI, gL_pL, gL_pD, gL_pR, gL_pnw, gL_pcp, gD_pI, gD_pL, gD_pD, gD_pR, gD_pnw, gD_pcp, gR_pI, gR_pL, gR_pD, gR_pR, gR_pnw, gR_pcp, gz_pI, gz_pL, gz_pD, gz_pR, gz_pnw, gz_pcp]; rw [if_neg (by omega)]
theorem c_all {M : Im} {r : List Int} {E : Int} {l : List Pc} {Y : List (List Pc)} {mk_ an : Int} {w : List Int} {lk n0 : Nat} {Q : Int → Im → Prop} (hc : CI M r E l Y mk_ an w lk) (hw : WF n0 r E l Y mk_ an w lk)
    (hQ : ∀ M', Ag (· = 18) M M' → CI M' r E l Y mk_ an w lk → (∀ j x, (GT l)[j]? = some x → gL M' 18 j = x) → Q (GT l).length M') : sp_X4_gatherAll 0 M Q := by
  obtain ⟨f1, f2, f3, f4, f5, f6, f7, f8, f9, f10⟩ := hw.facts
  have hci := hc
  obtain ⟨hk, hP, ⟨t, t', hC, hT⟩, -⟩ := hc
  obtain ⟨ht, ht', -, -, -, hcap, -, h300, -⟩ := hC.TL
  have e := mgl_GT hw.2.2.2.1.2.1
  refine c_gatherAll hk ht hC.2.1 hT (by omega) (by omega) (by omega) (by omega) fun M' g h => ?_
  rw [e] at h ⊢
  exact hQ M' g (hci.ag g (fun b hb => by omega)) h
theorem st_at {n : Nat} {M : Im} (h : Good n M) (hn : n < 512) (i : Int) : sp_X4_at 0 i M (fun z M1 => sp_X5_at 69 i M1 (Fin_ n z)) := by
  have w18 : alen 18 = 600 := rfl
  have w71 : alen 71 = 5000 := rfl
  obtain ⟨r, E, l, Y, mk_, an, w, lk, hc, hm, hw⟩ := h
  have hg := hw.2.2.2.2.2.1
  unfold sp_X4_at
  refine ⟨iO_c hc.1 (by decide) rfl, c_all hc hw fun M1 g1 hc1 r1 => ?_⟩
  have hm1 := hm.ag g1 (fun b hb => by omega)
  have mod : ∀ u : Int, ((i < 0 ∨ ((GT l).length : Int) ≤ i) → u = -9223372036854775808) → (∀ x, 0 ≤ i → (GT l)[i.toNat]? = some x → u = x) → sp_X5_at 69 i M1 (Fin_ n u) := by
    intro u h0 h1
    unfold sp_X5_at
    refine ⟨iO_c hc1.1 (by decide) rfl, d_all hc1.1 hm1 hw fun M2 g2 hm2 n2 r2 => ?_⟩
    have G2 := Good.same (hc1.ag g2 (fun b hb => by omega)) hm2 hw hn
    rw [n2, w71]
    refine ⟨fun h => ⟨h0 (Or.inl h), G2⟩, fun h => ⟨fun h' => ⟨by omega, ?_⟩, fun h' => ⟨h0 (Or.inr h'), G2⟩⟩⟩
    have e := List.getElem?_eq_getElem (l := GT l) (i := i.toNat) (by omega)
    rw [r2 _ _ e]
    exact ⟨h1 _ h e, G2⟩
  rw [w18]
  refine ⟨fun h => mod _ (fun _ => rfl) (fun x h' _ => by omega), fun h => ⟨fun h' => mod _ (fun _ => rfl) (fun x _ hx => by have := (List.getElem?_eq_some_iff.mp hx).1; omega), fun h' => ⟨by omega, ?_⟩⟩⟩
  have e := List.getElem?_eq_getElem (l := GT l) (i := i.toNat) (by omega)
  rw [r1 _ _ e]
  exact mod _ (fun hh => by omega) (fun x _ hx => by rw [e] at hx; cases hx; rfl)
/-- how many of the first are below -/
def cbl (L : List Int) (k : Int) : Nat → Nat → Nat
  | 0, i => i
  | d + 1, i => if lf L i < k then cbl L k d (i + 1) else i
theorem cbl_le (L : List Int) (k : Int) : ∀ d i, i + d = L.length → i ≤ cbl L k d i ∧ cbl L k d i ≤ L.length
  | 0, i, h => by unfold cbl; omega
  | d + 1, i, h => by
    unfold cbl
    split
    · have := cbl_le L k d (i + 1) (by omega); omega
    · omega
theorem c_below_8 {L : List Int} {k : Int} {Q K : Int → Im → Prop} {M : Im} (hl : L.length ≤ 590) (hr : ∀ j x, L[j]? = some x → gL M 18 j = x) : ∀ (d i : Nat), i + d = L.length → K (cbl L k d i : Nat) M → sp_X4_countBelow_8 (d + 1) 0 k L.length i M Q K
  | 0, i, h, hQ => by
    unfold sp_X4_countBelow_8
    exact ⟨fun _ => hQ, fun h => by omega⟩
  | d + 1, i, h, hQ => by
    have w18 : alen 18 = 600 := rfl
    have e := List.getElem?_eq_getElem (l := L) (i := i) (by omega)
    have el := lf_of e
    unfold sp_X4_countBelow_8
    rw [w18, show ((i : Nat) : Int).toNat = i by omega, hr _ _ e, ← el]
    unfold cbl at hQ
    refine ⟨fun h => by omega, fun _ => ⟨by omega, fun hge => ?_, fun hlt => ⟨by omega, ?_⟩⟩⟩
    · rw [if_neg (by omega)] at hQ; exact hQ
    · rw [if_pos hlt] at hQ
      rintro i1 rfl
      rw [show (i : Int) + 1 = ((i + 1 : Nat) : Int) by omega]
      exact c_below_8 hl hr d (i + 1) (by omega) hQ
theorem d_ahead_6 {L : List Int} {k : Int} {Q K : Int → Im → Prop} {M : Im} (hl : L.length ≤ 590) (h26 : gI M 69 26 = L.length) (hr : ∀ j x, L[j]? = some x → gL M 71 j = x) : ∀ (d i : Nat), i + d = L.length → K (cbl L k d i : Nat) M → sp_X5_ahead_6 (d + 1) 69 k i M Q K
  | 0, i, h, hQ => by
    unfold sp_X5_ahead_6
    rw [h26]
    exact ⟨fun _ => hQ, fun h => by omega⟩
  | d + 1, i, h, hQ => by
    have w71 : alen 71 = 5000 := rfl
    have e := List.getElem?_eq_getElem (l := L) (i := i) (by omega)
    have el := lf_of e
    unfold sp_X5_ahead_6
    rw [h26, w71, show ((i : Nat) : Int).toNat = i by omega, hr _ _ e, ← el]
    unfold cbl at hQ
    refine ⟨fun h => by omega, fun _ => ⟨by omega, fun hge => ?_, fun hlt => ⟨by omega, ?_⟩⟩⟩
    · rw [if_neg (by omega)] at hQ; exact hQ
    · rw [if_pos hlt] at hQ
      rintro i1 rfl
      rw [show (i : Int) + 1 = ((i + 1 : Nat) : Int) by omega]
      exact d_ahead_6 hl h26 hr d (i + 1) (by omega) hQ
theorem c_countBelow {M : Im} {r : List Int} {E : Int} {l : List Pc} {Y : List (List Pc)} {mk_ an k : Int} {w : List Int} {lk n0 : Nat} {Q : Int → Im → Prop} (hc : CI M r E l Y mk_ an w lk) (hw : WF n0 r E l Y mk_ an w lk)
    (hQ : ∀ M', Ag (· = 18) M M' → CI M' r E l Y mk_ an w lk → Q (cbl (GT l) k (GT l).length 0 : Nat) M') : sp_X4_countBelow 0 k M Q := by
  have hg := hw.2.2.2.2.2.1
  unfold sp_X4_countBelow
  exact ⟨iO_c hc.1 (by decide) rfl, c_all hc hw fun M1 g1 hc1 r1 => ⟨(GT l).length + 1, c_below_8 (Q := Q) (K := fun x4 M => Q x4 M) (by omega) r1 (GT l).length 0 (by omega) (hQ M1 g1 hc1)⟩⟩
theorem d_ahead {M : Im} {r : List Int} {E : Int} {l : List Pc} {Y : List (List Pc)} {mk_ an k : Int} {w : List Int} {lk n0 : Nat} {Q : Int → Im → Prop} (hk : K0 ≤ gz M) (hm : MI M r E l Y mk_ an w lk) (hw : WF n0 r E l Y mk_ an w lk)
    (hQ : ∀ M', Ag (fun b => b = 69 ∨ b = 71) M M' → MI M' r E l Y mk_ an w lk → Q (cbl (GT l) k (GT l).length 0 : Nat) M') : sp_X5_ahead 69 k M Q := by
  have hg := hw.2.2.2.2.2.1
  unfold sp_X5_ahead
  exact ⟨iO_c hk (by decide) rfl, d_all hk hm hw fun M1 g1 hm1 n1 r1 => ⟨(GT l).length + 1, d_ahead_6 (Q := Q) (K := fun x3 M => Q x3 M) (by omega) n1 r1 (GT l).length 0 (by omega) (hQ M1 g1 hm1)⟩⟩
theorem st_below {n : Nat} {M : Im} (h : Good n M) (hn : n < 512) (k : Int) : sp_X4_below 0 k M (fun z M1 => sp_X5_below 69 k M1 (Fin_ n z)) := by
  obtain ⟨r, E, l, Y, mk_, an, w, lk, hc, hm, hw⟩ := h
  have G := Good.same hc hm hw hn
  obtain ⟨hk, hP, ⟨t, t', hC, hT⟩, -⟩ := id hc
  have m23 := m23_iff hm.1.2.2.2.1
  unfold sp_X4_below
  refine ⟨iO_c hk (by decide) rfl, c_hasIndex hk hC hT (fun he => ⟨fun _ => c_isKey (fun hi => ⟨fun _ => ?_, fun h => (by omega)⟩) (fun hi => ⟨fun h => absurd rfl h, fun _ => ?_⟩), fun h => (by omega)⟩) (fun he => ⟨fun h => absurd rfl h, fun _ => ?_⟩)⟩
  · refine c_countBelow hc hw fun M1 g1 hc1 => ?_
    have hm1 := hm.ag g1 (fun b hb => by omega)
    have m23' := m23_iff hm1.1.2.2.2.1
    unfold sp_X5_below
    exact ⟨iO_c hc1.1 (by decide) rfl, fun _ => d_isKey hc1.1 (fun _ => ⟨fun h => (by omega), fun _ => d_ahead hc1.1 hm1 hw fun M2 g2 hm2 => ⟨rfl, Good.same (hc1.ag g2 (fun b hb => by omega)) hm2 hw hn⟩⟩) (fun h => absurd hi h), fun h0 => absurd (m23'.mp h0) he⟩
  · unfold sp_X5_below
    exact ⟨iO_c hk (by decide) rfl, fun _ => d_isKey hk (fun h => absurd h hi) (fun _ => ⟨fun _ => ⟨rfl, G⟩, fun h => absurd rfl h⟩), fun h0 => absurd (m23.mp h0) he⟩
  · unfold sp_X5_below
    exact ⟨iO_c hk (by decide) rfl, fun h => absurd (m23.mpr he) h, fun _ => ⟨rfl, G⟩⟩
theorem st_between {n : Nat} {M : Im} (h : Good n M) (hn : n < 512) (a b : Int) : sp_X4_between 0 a b M (fun z M1 => sp_X5_between 69 a b M1 (Fin_ n z)) := by
  obtain ⟨r, E, l, Y, mk_, an, w, lk, hc, hm, hw⟩ := h
  have G := Good.same hc hm hw hn
  have hg := hw.2.2.2.2.2.1
  obtain ⟨hk, hP, ⟨t, t', hC, hT⟩, -⟩ := id hc
  have m23 := m23_iff hm.1.2.2.2.1
  have cb := cbl_le (GT l) b (GT l).length 0 (by omega)
  have ca := cbl_le (GT l) a (GT l).length 0 (by omega)
  have bad : (¬ inR a ∨ ¬ inR b) → l ≠ [] → sp_X5_between 69 a b M (Fin_ n (-2)) := fun h he => by
    unfold sp_X5_between
    refine ⟨iO_c hk (by decide) rfl, fun _ => d_isKey hk (fun hi => ⟨fun h => (by omega), fun _ => d_isKey hk (fun hj => ?_) (fun _ => ⟨fun h => absurd rfl h, fun _ => ⟨rfl, G⟩⟩)⟩) (fun _ => ⟨fun _ => ⟨rfl, G⟩, fun h => absurd rfl h⟩), fun h0 => absurd (m23.mp h0) he⟩
    rcases h with h | h
    · exact absurd hi h
    · exact absurd hj h
  unfold sp_X4_between
  refine ⟨iO_c hk (by decide) rfl, c_hasIndex hk hC hT (fun he => ⟨fun _ => c_isKey (fun hi => ⟨fun h => (by omega), fun _ => c_isKey (fun hj => ⟨fun _ => ⟨fun hle => ?_, fun hlt => ?_⟩, fun h => (by omega)⟩) (fun hj => ⟨fun h => absurd rfl h, fun _ => bad (Or.inr hj) he⟩)⟩) (fun hi => ⟨fun _ => bad (Or.inl hi) he, fun h => absurd rfl h⟩), fun h => (by omega)⟩) (fun he => ⟨fun h => absurd rfl h, fun _ => ?_⟩)⟩
  · unfold sp_X5_between
    exact ⟨iO_c hk (by decide) rfl, fun _ => d_isKey hk (fun _ => ⟨fun h => (by omega), fun _ => d_isKey hk (fun _ => ⟨fun _ => ⟨fun h => (by omega), fun _ => ⟨rfl, G⟩⟩, fun h => (by omega)⟩) (fun h => absurd hj h)⟩) (fun h => absurd hi h), fun h0 => absurd (m23.mp h0) he⟩
  · refine c_countBelow hc hw fun M1 g1 hc1 => c_countBelow hc1 hw fun M2 g2 hc2 => ⟨by omega, ?_⟩
    have hm2 := hm.ag (g1.trans g2) (fun b hb => by omega)
    have m23' := m23_iff hm2.1.2.2.2.1
    have k2 := hc2.1
    unfold sp_X5_between
    refine ⟨iO_c k2 (by decide) rfl, fun _ => d_isKey k2 (fun _ => ⟨fun h => (by omega), fun _ => d_isKey k2 (fun _ => ⟨fun _ => ⟨fun _ => ?_, fun h => (by omega)⟩, fun h => (by omega)⟩) (fun h => absurd hj h)⟩) (fun h => absurd hi h), fun h0 => absurd (m23'.mp h0) he⟩
    refine d_ahead k2 hm2 hw fun M3 g3 hm3 => d_ahead (g3.k0 k2) hm3 hw fun M4 g4 hm4 => ⟨by omega, rfl, Good.same (hc2.ag (g3.trans g4) (fun b hb => by omega)) hm4 hw hn⟩
  · unfold sp_X5_between
    exact ⟨iO_c hk (by decide) rfl, fun h => absurd (m23.mpr he) h, fun _ => ⟨rfl, G⟩⟩
/-- the first above -/
def fab (L : List Int) (k : Int) : Nat → Nat → Nat
  | 0, i => i
  | d + 1, i => if k < lf L i then i else fab L k d (i + 1)
theorem fab_le (L : List Int) (k : Int) : ∀ d i, i + d = L.length → i ≤ fab L k d i ∧ fab L k d i ≤ L.length
  | 0, i, h => by unfold fab; omega
  | d + 1, i, h => by
    unfold fab
    split
    · omega
    · have := fab_le L k d (i + 1) (by omega); omega
theorem c_above_8 {L : List Int} {k : Int} {Q : Int → Im → Prop} {K26 : Nat → Int → Im → Prop} {K40 : Im → Prop} {M : Im} (hl : L.length ≤ 590) (hr : ∀ j x, L[j]? = some x → gL M 18 j = x) : ∀ (d i : Nat), i + d = L.length → (fab L k d i < L.length → K26 0 (fab L k d i : Nat) M) → (fab L k d i = L.length → K40 M) → sp_X4_above_8 (d + 1) 0 k L.length i M Q K26 K40
  | 0, i, h, q1, q0 => by
    unfold sp_X4_above_8
    exact ⟨fun _ => q0 (by unfold fab; omega), fun h => by omega⟩
  | d + 1, i, h, q1, q0 => by
    have w18 : alen 18 = 600 := rfl
    have e := List.getElem?_eq_getElem (l := L) (i := i) (by omega)
    have el := lf_of e
    unfold sp_X4_above_8
    rw [w18, show ((i : Nat) : Int).toNat = i by omega, hr _ _ e, ← el]
    unfold fab at q1 q0
    refine ⟨fun h => by omega, fun _ => ⟨by omega, fun hge => ⟨by omega, ?_⟩, fun hlt => ?_⟩⟩
    · rw [if_neg (by omega)] at q1 q0
      rintro i1 rfl
      rw [show (i : Int) + 1 = ((i + 1 : Nat) : Int) by omega]
      exact c_above_8 hl hr d (i + 1) (by omega) q1 q0
    · rw [if_pos hlt] at q1 q0
      exact q1 (by omega)
theorem d_above_6 {L : List Int} {k : Int} {Q : Int → Im → Prop} {K31 : Nat → Int → Im → Prop} {M : Im} (hl : L.length ≤ 590) (h26 : gI M 69 26 = L.length) (hr : ∀ j x, L[j]? = some x → gL M 71 j = x) : ∀ (d i : Nat), i + d = L.length → K31 69 (fab L k d i : Nat) M → sp_X5_above_6 (d + 1) 69 k i M Q K31
  | 0, i, h, hQ => by
    unfold sp_X5_above_6
    rw [h26]
    exact ⟨fun _ => hQ, fun h => by omega⟩
  | d + 1, i, h, hQ => by
    have w71 : alen 71 = 5000 := rfl
    have e := List.getElem?_eq_getElem (l := L) (i := i) (by omega)
    have el := lf_of e
    unfold sp_X5_above_6
    rw [h26, w71, show ((i : Nat) : Int).toNat = i by omega, hr _ _ e, ← el]
    unfold fab at hQ
    refine ⟨fun h => by omega, fun _ => ⟨by omega, fun hlt => ?_, fun hge => ⟨by omega, ?_⟩⟩⟩
    · rw [if_pos hlt] at hQ; exact hQ
    · rw [if_neg (by omega)] at hQ
      rintro i1 rfl
      rw [show (i : Int) + 1 = ((i + 1 : Nat) : Int) by omega]
      exact d_above_6 hl h26 hr d (i + 1) (by omega) hQ
theorem st_above {n : Nat} {M : Im} (h : Good n M) (hn : n < 512) (k : Int) : sp_X4_above 0 k M (fun z M1 => sp_X5_above 69 k M1 (Fin_ n z)) := by
  have w18 : alen 18 = 600 := rfl
  have w71 : alen 71 = 5000 := rfl
  obtain ⟨r, E, l, Y, mk_, an, w, lk, hc, hm, hw⟩ := h
  have hg := hw.2.2.2.2.2.1
  have fl := fab_le (GT l) k (GT l).length 0 (by omega)
  unfold sp_X4_above
  refine ⟨iO_c hc.1 (by decide) rfl, c_all hc hw fun M1 g1 hc1 r1 => ⟨(GT l).length + 1, ?_⟩⟩
  have hm1 := hm.ag g1 (fun b hb => by omega)
  have mod : ∀ u : Int, (fab (GT l) k (GT l).length 0 = (GT l).length → u = -9223372036854775808) → (fab (GT l) k (GT l).length 0 < (GT l).length → u = lf (GT l) (fab (GT l) k (GT l).length 0)) → sp_X5_above 69 k M1 (Fin_ n u) := by
    intro u u0 u1
    unfold sp_X5_above
    refine ⟨iO_c hc1.1 (by decide) rfl, d_all hc1.1 hm1 hw fun M2 g2 hm2 n2 r2 => ⟨(GT l).length + 1, ?_⟩⟩
    have G2 := Good.same (hc1.ag g2 (fun b hb => by omega)) hm2 hw hn
    refine d_above_6 (by omega) n2 r2 (GT l).length 0 (by omega) ?_
    rw [n2, w71]
    refine ⟨fun h => ⟨u0 (by omega), G2⟩, fun h => ⟨by omega, ?_⟩⟩
    have e := List.getElem?_eq_getElem (l := GT l) (i := fab (GT l) k (GT l).length 0) (by omega)
    rw [show ((fab (GT l) k (GT l).length 0 : Nat) : Int).toNat = fab (GT l) k (GT l).length 0 by omega, r2 _ _ e, ← lf_of e]
    exact ⟨u1 (by omega), G2⟩
  refine c_above_8 (by omega) r1 (GT l).length 0 (by omega) (fun h => ?_) (fun h => mod _ (fun _ => rfl) (fun h' => by omega))
  rw [w18]
  refine ⟨by omega, ?_⟩
  have e := List.getElem?_eq_getElem (l := GT l) (i := fab (GT l) k (GT l).length 0) (by omega)
  rw [show ((fab (GT l) k (GT l).length 0 : Nat) : Int).toNat = fab (GT l) k (GT l).length 0 by omega, r1 _ _ e, ← lf_of e]
  exact mod _ (fun h' => by omega) (fun _ => rfl)
