/-! ===== insert ===== -/
theorem tsum_GT : ∀ l : List Pc, tsum l ≤ (GT l).length
  | [] => Nat.le_refl _
  | q :: l => by have := tsum_GT l; rw [tsum_cons, GT_cons, List.length_append, mq_length]; omega
def AgW (b : Nat) : Prop := 69 ≤ b ∧ b < 97
/-- a list of pieces with a late key more -/
theorem ins_pure {n : Nat} {r : List Int} {E : Int} {l : List Pc} {Y : List (List Pc)} {mk_ an : Int} {w : List Int} {lk : Nat} {k : Int} (hw : WF n r E l Y mk_ an w lk) (he : l ≠ []) (hi : inR k) (h0 : fans k l Y = 0) (hne : kf (fq k l Y) (fi k l Y) ≠ k) :
    WL (l.set (fpc k Y) (insL (fq k l Y) (fls k l Y).1 k)) ∧ (GT (l.set (fpc k Y) (insL (fq k l Y) (fls k l Y).1 k))).length = (GT l).length + 1 ∧ ksum (l.set (fpc k Y) (insL (fq k l Y) (fls k l Y).1 k)) = ksum l ∧ tsum (l.set (fpc k Y) (insL (fq k l Y) (fls k l Y).1 k)) = tsum l + 1 := by
  obtain ⟨q1, q2, q3⟩ := hw.find he k
  have hq : l[fpc k Y]? = some (fq k l Y) := pcAt_get q3
  have hgd := hw.2.2.2.1.1 _ (List.mem_of_getElem? hq)
  have e0 : (fls k l Y).2.2 = 0 := by unfold fans at h0; rw [if_neg (fun h => hne h.1)] at h0; exact h0
  have sle := (lsc_le (tf (fq k l Y)) k (plt (fq k l Y)).length).1
  have ml := mq_len_insL (q := fq k l Y) (i := (fls k l Y).1) (k := k) sle
  have gl := GT_len_set (q' := insL (fq k l Y) (fls k l Y).1 k) hq
  have ts := tsum_set' (q' := insL (fq k l Y) (fls k l Y).1 k) hq
  have il := insL_len (q := fq k l Y) (i := (fls k l Y).1) (k := k) sle
  refine ⟨WL_insL hw.2.2.2.1 hq hi (fun hm => ?_) e0 q2, by omega, ksum_set hq rfl, by omega⟩
  obtain ⟨x, hx, ex⟩ := List.mem_map.mp hm
  obtain ⟨i, hil, hxi⟩ := List.mem_iff_getElem.mp hx
  have ek : kf (fq k l Y) i = k := by
    unfold kf
    rw [List.getElem?_eq_getElem hil, hxi]
    exact ex
  have ea := key_at hgd hil
  rw [ek] at ea
  exact hne (by show kf (fq k l Y) (dsc (fq k l Y) k).1 = k; rw [ea]; exact ek)
/-- the model's insert, on a find that isn't there -/
theorem d_insert {n : Nat} {M : Im} {r : List Int} {E : Int} {l : List Pc} {Y : List (List Pc)} {mk_ an : Int} {w : List Int} {lk : Nat} {k : Int} {Q : Int → Im → Prop} (hk : K0 ≤ gz M) (hm : MI M r E l Y mk_ an w lk) (hw : WF n r E l Y mk_ an w lk) (hn : n < 512) (he : l ≠ []) (hi : inR k)
    (h1 : fans k l Y ≠ 0 → ∀ M', Ag AgW M M' → MI M' r E l Y mk_ an w lk → Q 0 M')
    (h3 : fans k l Y = 0 → (GT l).length = 300 → ∀ M', Ag AgW M M' → MI M' r E l Y mk_ an w lk → Q (-3) M')
    (hr : fans k l Y = 0 → (GT l).length < 300 → kf (fq k l Y) (fi k l Y) = k → ∀ M', Ag AgW M M' → MI M' r E (l.set (fpc k Y) (setD (fq k l Y) (fi k l Y) 0)) Y mk_ an w lk → Q 1 M')
    (hl : fans k l Y = 0 → (GT l).length < 300 → kf (fq k l Y) (fi k l Y) ≠ k → (plt (fq k l Y)).length < 15 → ∀ M', Ag AgW M M' → MI M' r E (l.set (fpc k Y) (insL (fq k l Y) (fls k l Y).1 k)) Y mk_ an w lk → Q 1 M')
    (hg : fans k l Y = 0 → (GT l).length < 300 → kf (fq k l Y) (fi k l Y) ≠ k → (plt (fq k l Y)).length = 15 → ∀ M', Ag AgW M M' → MI M' r E (repl 1 E (l.set (fpc k Y) (insL (fq k l Y) (fls k l Y).1 k)) (fpc k Y) (fpc k Y + 1)) (lys E 10 (repl 1 E (l.set (fpc k Y) (insL (fq k l Y) (fls k l Y).1 k)) (fpc k Y) (fpc k Y + 1))) (mk_ + (newP 1 E (l.set (fpc k Y) (insL (fq k l Y) (fls k l Y).1 k)) (fpc k Y) (fpc k Y + 1)).length) (an + 1) w lk → Q 1 M') : sp_X5_insert 69 k M Q := by
  have w75 : alen 75 = 10000 := rfl
  have w78 : alen 78 = 10000 := rfl
  have w82 : alen 82 = 12000 := rfl
  have w83 : alen 83 = 160000 := rfl
  have w84 : alen 84 = 12000 := rfl
  obtain ⟨f1, f2, f3, f4, f5, f6, f7, f8, f9, f10⟩ := hw.facts
  obtain ⟨q1, q2, q3⟩ := hw.find he k
  have m23 := m23_iff hm.1.2.2.2.1
  have hgl := hw.2.2.2.2.2.1
  have hq : l[fpc k Y]? = some (fq k l Y) := pcAt_get q3
  have hgd := hw.2.2.2.1.1 _ (List.mem_of_getElem? hq)
  have hl15 := hw.2.2.2.2.1 _ (List.mem_of_getElem? hq)
  have hfi : fi k l Y < (pks (fq k l Y)).length := dsc_lt hgd.1 hgd.2.1
  have kin := ksum_in hq
  have tin := tsum_in hq
  have hqA : (l :: Y).flatten[fpc k Y]? = some (fq k l Y) := by rw [List.flatten_cons, List.getElem?_append_left q3]; exact hq
  have etk : (l :: Y).flatten.take (fpc k Y) = l.take (fpc k Y) := by rw [List.flatten_cons, List.take_append_of_le_length (by omega)]
  unfold sp_X5_insert
  refine ⟨iO_c hk (by decide) rfl, fun _ => d_isKey hk (fun _ => ⟨fun _ => ?_, fun h => (by omega)⟩) (fun h => absurd hi h), fun h0 => absurd (m23.mp h0) he⟩
  refine d_trial hk hm hw he hi fun M7 g7 hm7 b43 b44 _ b45 => ⟨fun h0 => ?_, fun hne => h1 hne M7 (g7.mono fun b hb => by unfold AgF at hb; unfold AgW; omega) hm7⟩
  have g7W : Ag AgW M M7 := g7.mono fun b hb => by unfold AgF at hb; unfold AgW; omega
  have k7 := g7.k0 hk
  refine d_there k7 hm7.2.2.1 (flat_pre l Y) (by omega) (by omega) (by omega) hm7.1.2.2.2.1 (lv73 hm7.2.2.2.1).2 ⟨fun hnf => ?_, fun hf => h3 h0 (by omega) M7 g7W hm7⟩
  have hg3 : (GT l).length < 300 := by omega
  rintro i15 rfl
  have hP7 := hm7.2.2.1 _ _ hqA
  rw [etk] at hP7
  have m23'' := hm7.1.2.2.2.1
  rw [if_neg he] at m23''
  rw [b43, b44, w75, w78, w82, w84, show ((fpc k Y : Nat) : Int).toNat = fpc k Y by omega, hP7.1.2.1, show (((ksum (l.take (fpc k Y)) : Nat) : Int) + ((fi k l Y : Nat) : Int)).toNat = ksum (l.take (fpc k Y)) + fi k l Y by omega, (hP7.2.2.1 _ hfi).1]
  refine ⟨by omega, by omega, by omega, by omega, fun hne => ⟨by omega, ?_⟩, fun heq => ⟨by omega, by omega, by omega, by omega, ?_⟩⟩
  · rw [hP7.1.2.2.2.2]
    rintro i16 rfl
    obtain ⟨pw, pg, pk, pt⟩ := ins_pure hw he hi h0 hne
    have e0 : (fls k l Y).2.2 = 0 := by unfold fans at h0; rw [if_neg (fun h => hne h.1)] at h0; exact h0
    have sle := (lsc_le (tf (fq k l Y)) k (plt (fq k l Y)).length).1
    have ed : lsc (tf (fq k l Y)) k (plt (fq k l Y)).length = fls k l Y := rfl
    have il := insL_len (q := fq k l Y) (i := (fls k l Y).1) (k := k) (by rw [← ed]; exact sle)
    refine ⟨(plt (fq k l Y)).length + 1, d_insert_96 (q := fq k l Y) (by omega) hl15 (plt (fq k l Y)).length (Nat.le_refl _) (fun j hj => hP7.2.2.2 j hj) fun M8 g8 a8 o8 => ?_⟩
    rw [ed] at sle a8 o8 ⊢
    generalize hs : (fls k l Y).1 = s at sle a8 o8 il pw pg pk pt hl hg ⊢
    generalize hq' : insL (fq k l Y) s k = q' at il pw pg pk pt hl hg ⊢
    rw [show ((16 : Int) * ((fpc k Y : Nat) : Int) + ((s : Nat) : Int)).toNat = 16 * fpc k Y + s by omega, show ((fpc k Y : Nat) : Int).toNat = fpc k Y by omega]
    refine ⟨by omega, by omega, by omega, by omega, by omega, ?_⟩
    rintro M3 rfl
    refine ⟨by omega, by omega, ?_⟩
    have e78 : gI (pL M8 83 (16 * fpc k Y + s) k) 78 (fpc k Y) = (plt (fq k l Y)).length := by show gI M8 78 (fpc k Y) = _; rw [g8.I (by omega)]; exact hP7.1.2.2.2.2
    rw [e78]
    refine ⟨by omega, ?_⟩
    rintro M4 rfl
    have g9 : Ag (fun b => b = 78 ∨ b = 83) M8 (pI (pL M8 83 (16 * fpc k Y + s) k) 78 (fpc k Y) (((plt (fq k l Y)).length : Int) + 1)) := ((Ag.refl (S := fun b => b = 78 ∨ b = 83)).pL (Or.inr rfl)).pI (Or.inl rfl)
    have a78 : ∀ x, gI (pI (pL M8 83 (16 * fpc k Y + s) k) 78 (fpc k Y) (((plt (fq k l Y)).length : Int) + 1)) 78 x = if x = fpc k Y then ((plt (fq k l Y)).length : Int) + 1 else gI M8 78 x := fun x => by simp [gI_pI, gI_pL, gI_pD, gI_pR, gI_pnw, gI_pcp, gL_pI, gL_pL, gL_pD, gL_pR, gL_pnw, gL_pcp, gD_pI, gD_pL, gD_pD, gD_pR, gD_pnw, gD_pcp, gR_pI, gR_pL, gR_pD, gR_pR, gR_pnw, gR_pcp, gz_pI, gz_pL, gz_pD, gz_pR, gz_pnw, gz_pcp]
    have a83 : ∀ x, gL (pI (pL M8 83 (16 * fpc k Y + s) k) 78 (fpc k Y) (((plt (fq k l Y)).length : Int) + 1)) 83 x = if x = 16 * fpc k Y + s then k else gL M8 83 x := fun x => by simp [gI_pI, gI_pL, gI_pD, gI_pR, gI_pnw, gI_pcp, gL_pI, gL_pL, gL_pD, gL_pR, gL_pnw, gL_pcp, gD_pI, gD_pL, gD_pD, gD_pR, gD_pnw, gD_pcp, gR_pI, gR_pL, gR_pD, gR_pR, gR_pnw, gR_pcp, gz_pI, gz_pL, gz_pD, gz_pR, gz_pnw, gz_pcp]
    generalize pI (pL M8 83 (16 * fpc k Y + s) k) 78 (fpc k Y) (((plt (fq k l Y)).length : Int) + 1) = M9 at g9 a78 a83
    have gB : Ag (fun b => b = 78 ∨ b = 83) M7 M9 := (g8.mono fun b hb => Or.inr hb).trans g9
    have e1 : q'.1 = (fq k l Y).1 := by rw [← hq']; rfl
    have e2 : pks q' = pks (fq k l Y) := by rw [← hq']; rfl
    have tfq : ∀ j, tf q' j = if j < s then tf (fq k l Y) j else if j = s then k else tf (fq k l Y) (j - 1) := fun j => by rw [← hq']; exact tf_ins (by omega) j
    have A9 : MA M9 ((l :: Y).flatten.set (fpc k Y) q') := by
      refine hm7.2.2.1.setL hqA e1 e2 (gB.mono fun b hb => Or.inr hb) (fun x hx => by rw [a78, if_neg hx, g8.I (by omega)]) (by rw [a78, if_pos rfl]; omega) (fun i hi' => ?_) (fun j hj' => by rw [a83, if_neg (by omega), o8 j (by omega)]) (fun x y hx hy => ?_)
      · rw [tfq, a83]
        by_cases c : i < s
        · rw [if_pos c, if_neg (by omega), o8 _ (by omega)]
          exact hP7.2.2.2 i (by omega)
        · by_cases c2 : i = s
          · rw [if_neg c, if_pos c2, if_pos (by omega)]
          · rw [if_neg c, if_neg c2, if_neg (by omega)]
            exact a8 i (by omega) (by omega)
      · rw [List.flatten_cons, List.getElem?_append_left (by omega)] at hy
        have := hw.2.2.2.2.1 y (List.mem_of_getElem? hy)
        omega
    rw [← flat_set q3] at A9
    have hne2 : l.set (fpc k Y) q' ≠ [] := fun e => he (by have := congrArg List.length e; rw [List.length_set] at this; exact List.eq_nil_of_length_eq_zero this)
    have hm9 : MI M9 r E (l.set (fpc k Y) q') Y mk_ an w lk := hm7.anew (gB.mono fun b hb => Or.inl (by unfold AgR; omega)) (fun j _ => gB.I (by omega) j) (by rw [gB.I (by omega)]; exact hm7.1.2.2.1) (by rw [if_neg hne2, gB.I (by omega)]; exact m23'') (by rw [gB.I (by omega)]; exact hm7.1.2.2.2.2.1) (by rw [gB.I (by omega)]; exact hm7.1.2.2.2.2.2.1) A9 (hm7.2.2.2.1.ag gB (by omega) (by omega)).set
    have g9W : Ag AgW M M9 := g7W.trans (gB.mono fun b hb => by unfold AgW; omega)
    rw [a78, if_pos rfl]
    refine ⟨by omega, fun hfull => ?_, fun hlt => hl h0 hg3 hne (by omega) M9 g9W hm9⟩
    rintro M5 rfl
    have hql : (l.set (fpc k Y) q')[fpc k Y]? = some q' := by rw [List.getElem?_set_self q3]
    have hR : RepOk (l.set (fpc k Y) q') (fpc k Y) (fpc k Y + 1) := ⟨pw, by omega, by rw [List.length_set]; omega, by omega, by omega, by have := hw.2.2.2.2.2.2.1; omega, by have := tsum_GT (l.set (fpc k Y) q'); omega⟩
    have emid := mid1 hql
    obtain ⟨l1, -⟩ := hR.L
    rw [emid, GT_one] at l1
    have g5 : Ag (fun b => b = 69 ∨ b = 71) M9 (pI M9 69 26 0) := (Ag.refl (S := fun b => b = 69 ∨ b = 71)).pI (Or.inl rfl)
    have hqF : (l.set (fpc k Y) q' :: Y).flatten[fpc k Y]? = some q' := by rw [List.flatten_cons, List.getElem?_append_left (by rw [List.length_set]; exact q3)]; exact hql
    have hP9 := hm9.2.2.1 _ _ hqF
    have etk9 : (l.set (fpc k Y) q' :: Y).flatten.take (fpc k Y) = (l.set (fpc k Y) q').take (fpc k Y) := by rw [List.flatten_cons, List.take_append_of_le_length (by rw [List.length_set]; omega)]
    rw [etk9] at hP9
    have kin9 := ksum_in hql
    have MPf : ∀ {M1 M2 : Im} {g fr : Nat} {q : Pc}, Ag (fun b => b = 69 ∨ b = 71) M1 M2 → MP M1 g fr q → MP M2 g fr q := fun g h => h.frame (fun b h1 h2 => g.I (by omega) _) (fun b h1 h2 => g.L (by omega) _) (fun i _ => ⟨g.L (by omega) _, g.I (by omega) _⟩) (fun i _ => g.L (by omega) _)
    refine d_gather (g := 0) (q := q') (fr := ksum ((l.set (fpc k Y) q').take (fpc k Y))) (g5.k0 (g9W.k0 hk)) (by omega) (by omega) (by omega) (pw.1 q' (List.mem_of_getElem? hql)).2.2.2.2.1 (MPf g5 hP9) (by simp [gI_pI, gI_pL, gI_pD, gI_pR, gI_pnw, gI_pcp, gL_pI, gL_pL, gL_pD, gL_pR, gL_pnw, gL_pcp, gD_pI, gD_pL, gD_pD, gD_pR, gD_pnw, gD_pcp, gR_pI, gR_pL, gR_pD, gR_pR, gR_pnw, gR_pcp, gz_pI, gz_pL, gz_pD, gz_pR, gz_pnw, gz_pcp]) (by omega) fun M6 g6 c6 _ n6 _ s6 => ⟨by omega, ?_⟩
    rw [Nat.zero_add] at n6
    have gg : Ag (fun b => b = 69 ∨ b = 71) M9 M6 := g5.trans g6
    have m6 : MI M6 r E (l.set (fpc k Y) q') Y mk_ an w lk := hm9.keep (gg.mono fun b hb => by unfold MS; omega) (fun j hj => by rw [c6 j (by omega)]; simp only [gI_pI, gI_pL, gI_pD, gI_pR, gI_pnw, gI_pcp, gL_pI, gL_pL, gL_pD, gL_pR, gL_pnw, gL_pcp, gD_pI, gD_pL, gD_pD, gD_pR, gD_pnw, gD_pcp, gR_pI, gR_pL, gR_pD, gR_pR, gR_pnw, gR_pcp, gz_pI, gz_pL, gz_pD, gz_pR, gz_pnw, gz_pcp]; rw [if_neg (by omega)])
    have k6 := gg.k0 (g9W.k0 hk)
    rw [show ((fpc k Y : Nat) : Int) + 1 = ((fpc k Y + 1 : Nat) : Int) by omega]
    have wE := hw.2.2.1
    have wmk := hw.2.2.2.2.2.2.2.2.1
    have wan := hw.2.2.2.2.2.2.2.2.2.1
    refine d_rep (kind := 1) k6 m6 wE (Or.inl rfl) (by omega) hR (fun x hx => ?_) (by rw [emid, GT_one, n6]) (fun j y hy => ?_) fun M7' g7' m7' => ?_
    · rcases List.mem_or_eq_of_mem_set hx with v | v
      · have := hw.2.2.2.2.1 x v; omega
      · rw [v]; omega
    · rw [emid, GT_one] at hy
      have := s6 j y hy
      rw [Nat.zero_add] at this
      exact this
    · have e25 := m7'.1.2.2.2.2.2.1
      rw [e25]
      refine ⟨by omega, ?_⟩
      rintro M8' rfl
      have gz_ : Ag (fun b => AgR b ∨ b = 95) M7' (pI M7' 69 25 (an + 1)) := (Ag.refl (S := fun b => AgR b ∨ b = 95)).pI (Or.inl (by unfold AgR; omega))
      have gz' : Ag (· = 69) M7' (pI M7' 69 25 (an + 1)) := (Ag.refl (S := (· = 69))).pI rfl
      have zI : ∀ j, gI (pI M7' 69 25 (an + 1)) 69 j = if j = 25 then an + 1 else gI M7' 69 j := fun j => by simp [gI_pI, gI_pL, gI_pD, gI_pR, gI_pnw, gI_pcp, gL_pI, gL_pL, gL_pD, gL_pR, gL_pnw, gL_pcp, gD_pI, gD_pL, gD_pD, gD_pR, gD_pnw, gD_pcp, gR_pI, gR_pL, gR_pD, gR_pR, gR_pnw, gR_pcp, gz_pI, gz_pL, gz_pD, gz_pR, gz_pnw, gz_pcp]
      generalize pI M7' 69 25 (an + 1) = M8' at gz_ gz' zI
      refine hg h0 hg3 hne (by omega) M8' (((g9W.trans (gg.mono fun b hb => by unfold AgW; omega)).trans (g7'.mono fun b hb => by unfold AgR at hb; unfold AgW; omega)).trans (gz'.mono fun b hb => by unfold AgW; omega)) ?_
      exact m7'.anew gz_ (fun j hj => by rw [zI, if_neg (by omega)]) (by rw [zI, if_neg (by omega)]; exact m7'.1.2.2.1) (by rw [zI, if_neg (by omega)]; exact m7'.1.2.2.2.1) (by rw [zI, if_neg (by omega)]; exact m7'.1.2.2.2.2.1) (by rw [zI, if_pos rfl]) (m7'.2.2.1.ag gz' (fun b h1 h2 => by omega)) (m7'.2.2.2.1.ag gz' (by omega) (by omega))
  · rintro M17 rfl
    have A10 := hm7.2.2.1.setDr (d := 0) hqA hfi
    rw [etk, ← flat_set q3] at A10
    have g10 : Ag (fun b => AgR b ∨ b = 95) M7 (pI M7 84 (ksum (l.take (fpc k Y)) + fi k l Y) 0) := (Ag.refl (S := fun b => AgR b ∨ b = 95)).pI (Or.inl (Or.inr (by omega)))
    have g10' : Ag (· = 84) M7 (pI M7 84 (ksum (l.take (fpc k Y)) + fi k l Y) 0) := (Ag.refl (S := (· = 84))).pI rfl
    have hne2 : l.set (fpc k Y) (setD (fq k l Y) (fi k l Y) 0) ≠ [] := fun e => he (by have := congrArg List.length e; rw [List.length_set] at this; exact List.eq_nil_of_length_eq_zero this)
    exact hr h0 hg3 heq _ (g7W.trans (g10'.mono fun b hb => by unfold AgW; omega)) (hm7.anew g10 (fun j _ => g10'.I (by omega) j) (by rw [g10'.I (by omega)]; exact hm7.1.2.2.1) (by rw [if_neg hne2, g10'.I (by omega)]; exact m23'') (by rw [g10'.I (by omega)]; exact hm7.1.2.2.2.2.1) (by rw [g10'.I (by omega)]; exact hm7.1.2.2.2.2.2.1) A10 (hm7.2.2.2.1.ag g10' (by omega) (by omega)).set)
