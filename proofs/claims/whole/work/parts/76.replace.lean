/-! ===== replace: pieces go, others come ===== -/
/-- what the class may write but its row, its tiers' row and its latest trace -/
def IX (b : Nat) : Prop := b = 0 ∨ (2 ≤ b ∧ b ≤ 11) ∨ (15 ≤ b ∧ b < 69) ∨ 97 ≤ b
/-- index and spare -/
def CT (M : Im) (t t' : Nat) : Prop := (t = 2 ∧ t' = 7 ∨ t = 7 ∧ t' = 2) ∧ gR M 0 3 = some t ∧ gR M 0 4 = some t'
theorem CT.TL {M : Im} {t t' : Nat} (h : CT M t t') : t ∈ TL ∧ t' ∈ TL ∧ t < 12 ∧ t' < 12 ∧ t ≠ t' ∧ cap t = 600 ∧ cap t' = 600 ∧ alen (t + 3) = 300 ∧ alen (t' + 3) = 300 := by
  rcases h.1 with ⟨rfl, rfl⟩ | ⟨rfl, rfl⟩ <;> exact ⟨by decide, by decide, by decide, by decide, by decide, by decide +kernel, by decide +kernel, by decide +kernel, by decide +kernel⟩
theorem Fr.X {S0 : Nat → Prop} {t : Nat} {M M' : Im} (ht : t ∈ TL) (h12 : t < 12) (hS : ∀ b, S0 b → b = 17) (g : Fr S0 t M M') (hP : Pool M') : AgL IX M M' ∧ (∀ j, gI M' 0 j = gI M 0 j) ∧ (∀ j, gR M' 0 j = gR M 0 j) ∧ (∀ j, gL M' 18 j = gL M 18 j) := by
  have ft := TL_facts t ht
  obtain ⟨-, -, -, -, -, ft1, ft2, -, -, -, ft3, ft4, ft5⟩ := ft
  have off : ∀ b, b < 97 → b ≠ 17 → (b < t ∨ t + 4 < b) → ¬ (S0 b ∨ (t ≤ b ∧ b ≤ t + 4) ∨ own M' t b) := fun b h1 h2 h3 w => by
    rcases w with w | w | w
    · have := hS b w; omega
    · omega
    · have := own_hi hP ht w; omega
  refine ⟨g.1.mono fun b hb => ?_, fun j => g.1.I (off 0 (by omega) (by omega) (by omega)) j, fun j => g.1.R (off 0 (by omega) (by omega) (by omega)) j, fun j => g.1.L (off 18 (by omega) (by omega) (by omega)) j⟩
  rcases hb with w | w | w
  · have := hS b w; exact Or.inr (Or.inr (Or.inl (by omega)))
  · exact Or.inr (Or.inl (by omega))
  · have := own_hi hP ht w; exact Or.inr (Or.inr (Or.inr (by omega)))
theorem FrY.X {M M' : Im} (g : FrY M M') (hP : Pool M') : AgL IX M M' := by
  refine g.1.mono fun b hb => ?_
  rcases hb with h | h | h | h | ⟨i, hi, h⟩
  · exact Or.inl h
  · exact Or.inr (Or.inr (Or.inl (by omega)))
  · exact Or.inr (Or.inr (Or.inl (by omega)))
  · exact Or.inr (Or.inr (Or.inl (by omega)))
  · have := own_hi hP (UT_in hi) h; exact Or.inr (Or.inr (Or.inr (by omega)))
theorem len_le_ksum : ∀ {l : List Pc}, (∀ q, q ∈ l → pok q) → l.length ≤ ksum l
  | [], _ => Nat.zero_le _
  | q :: l, h => by
    have h1 := len_le_ksum (l := l) (fun x hx => h x (List.mem_cons_of_mem _ hx))
    have h2 := (h q List.mem_cons_self).1.2.1
    rw [ksum_cons, List.length_cons]; omega
theorem drop_all (l : List Pc) (to : Nat) : (l.take l.length).drop to = l.drop to := by rw [List.take_length]
theorem c_replace_83 {M : Im} {t t' to came : Nat} {made E : Int} {l pre : List Pc} {Q : Int → Im → Prop} (hC : CT M t t') (hk : K0 ≤ gz M) (hP : Pool M) (hT : TR M t l) (hT' : TR M t' pre) (h2 : gI M 0 2 = E) (hE : 0 ≤ E ∧ E ≤ 40) (h8 : gI M 0 8 = made) (hm : 0 ≤ made ∧ made + came ≤ 2000000000) (hto : to ≤ l.length)
    (hl : ksum l ≤ 590) (htl : tsum l ≤ 300) (hok : ∀ q, q ∈ l → pok q) (hok' : ∀ q, q ∈ pre → pok q) (hks : ksum (pre ++ l.drop to) ≤ 590) (hts : tsum (pre ++ l.drop to) ≤ 300) (hf : okF (fk (pre ++ l.drop to)) (pre ++ l.drop to).length)
    (hQ : ∀ M', AgL IX M M' → (∀ j, j ≠ 6 → j ≠ 8 → gI M' 0 j = gI M 0 j) → gI M' 0 8 = made + came → CT M' t' t → Pool M' → TR M' t' (pre ++ l.drop to) → Lay M' (lys E 10 (pre ++ l.drop to)) → Q came M') : sp_X4_replace_83 0 to came M Q := by
  obtain ⟨ht, ht', h12, h12', hne, hc, hc', hc3, hc3'⟩ := hC.TL
  obtain ⟨htt, r3, r4⟩ := hC
  have ll := len_le_ksum hok
  have hokd : ∀ q, q ∈ pre ++ l.drop to → pok q := fun q hq => (List.mem_append.mp hq).elim (hok' q) (fun w => hok q (List.mem_of_mem_drop w))
  have ll' := len_le_ksum hokd
  have ll3 := len_le_ksum hok'
  rw [List.length_append, List.length_drop] at ll'
  rw [ksum_app] at hks ll'
  rw [tsum_app] at hts
  unfold sp_X4_replace_83
  rintro r8 rfl r9 rfl r10 rfl
  rw [r3, r4]
  refine ⟨t, rfl, TL_O ht hk, t', rfl, TL_O ht' hk, ?_⟩
  rw [hT.2.2.1]
  refine c_takeOver (r := to) (to := l.length) ht' ht hne hto (Nat.le_refl _) (by omega) (by omega) (by omega) hok hk hT' hT hP (by rw [drop_all]; omega) (by rw [drop_all]; omega) (by omega) fun M13 F13 P13 T13 U13 => ?_
  rw [drop_all] at T13
  obtain ⟨x1, x2, x3, x4⟩ := F13.X ht' h12' (fun b h => h.elim) P13
  rintro r14 rfl r15 rfl M16 rfl M17 rfl
  rw [x3 3, x3 4, r3, r4]
  have e8 : gI (pR (pR M13 0 3 (some t')) 0 4 (some t)) 0 8 = made := by rw [gI_pR, gI_pR, x2]; exact h8
  rw [e8]
  refine ⟨by omega, ?_⟩
  rintro M18 rfl
  have g : Ag (· = 0) M13 (pI (pR (pR M13 0 3 (some t')) 0 4 (some t)) 0 8 (made + came)) := (((Ag.refl (S := (· = 0))).pR rfl).pR rfl).pI rfl
  have k13 : K0 ≤ gz M13 := Nat.le_trans hk x1.1
  have e3 : gR (pI (pR (pR M13 0 3 (some t')) 0 4 (some t)) 0 8 (made + came)) 0 3 = some t' := by simp [gI_pI, gI_pL, gI_pD, gI_pR, gI_pnw, gI_pcp, gL_pI, gL_pL, gL_pD, gL_pR, gL_pnw, gL_pcp, gD_pI, gD_pL, gD_pD, gD_pR, gD_pnw, gD_pcp, gR_pI, gR_pL, gR_pD, gR_pR, gR_pnw, gR_pcp, gz_pI, gz_pL, gz_pD, gz_pR, gz_pnw, gz_pcp]
  have e4 : gR (pI (pR (pR M13 0 3 (some t')) 0 4 (some t)) 0 8 (made + came)) 0 4 = some t := by simp [gI_pI, gI_pL, gI_pD, gI_pR, gI_pnw, gI_pcp, gL_pI, gL_pL, gL_pD, gL_pR, gL_pnw, gL_pcp, gD_pI, gD_pL, gD_pD, gD_pR, gD_pnw, gD_pcp, gR_pI, gR_pL, gR_pD, gR_pR, gR_pnw, gR_pcp, gz_pI, gz_pL, gz_pD, gz_pR, gz_pnw, gz_pcp]
  have eI : ∀ j, j ≠ 8 → gI (pI (pR (pR M13 0 3 (some t')) 0 4 (some t)) 0 8 (made + came)) 0 j = gI M 0 j := fun j hj => by
    simp only [gI_pI, gI_pL, gI_pD, gI_pR, gI_pnw, gI_pcp, gL_pI, gL_pL, gL_pD, gL_pR, gL_pnw, gL_pcp, gD_pI, gD_pL, gD_pD, gD_pR, gD_pnw, gD_pcp, gR_pI, gR_pL, gR_pD, gR_pR, gR_pnw, gR_pcp, gz_pI, gz_pL, gz_pD, gz_pR, gz_pnw, gz_pcp]; rw [if_neg (by omega)]; exact x2 j
  have e8' : gI (pI (pR (pR M13 0 3 (some t')) 0 4 (some t)) 0 8 (made + came)) 0 8 = made + came := by simp [gI_pI, gI_pL, gI_pD, gI_pR, gI_pnw, gI_pcp, gL_pI, gL_pL, gL_pD, gL_pR, gL_pnw, gL_pcp, gD_pI, gD_pL, gD_pD, gD_pR, gD_pnw, gD_pcp, gR_pI, gR_pL, gR_pD, gR_pR, gR_pnw, gR_pcp, gz_pI, gz_pL, gz_pD, gz_pR, gz_pnw, gz_pcp]
  generalize pI (pR (pR M13 0 3 (some t')) 0 4 (some t)) 0 8 (made + came) = M18 at g e3 e4 eI e8' ⊢
  have P18 : Pool M18 := P13.ag g (fun v hv => by have := TL_facts v hv; omega)
  have ft' := TL_facts t' ht'
  have T18 : TR M18 t' (pre ++ l.drop to) := T13.ag g (fun b h1 h2 => by omega) (fun b hb => by omega)
  refine c_makeLayers hE ht' h12' (by rw [List.length_append, List.length_drop]; omega) (g.k0 k13) P18 (by rw [eI 2 (by omega)]; exact h2) e3 T18 hc' (by rw [ksum_app]; omega) hokd hf fun M' F P L T => ?_
  refine hQ M' ((x1.trans (g.mono (fun b hb => Or.inl hb)).toL).trans (F.X P)) (fun j h6 h8 => by rw [F.2.1 j h6]; exact eI j h8) (by rw [F.2.1 8 (by omega)]; exact e8') ⟨htt.elim (fun h => Or.inr ⟨h.2, h.1⟩) (fun h => Or.inl ⟨h.2, h.1⟩), by rw [F.2.2.1]; exact e3, by rw [F.2.2.1]; exact e4⟩ P T L
/-- the pieces that are made, of a kind -/
def mkk (kind E : Int) (f : Nat → Int) (n : Nat) : List Pc := if kind = 2 then (mk (E - 1) E f n).map rndK else mk E E f n
theorem rndK_len (q : Pc) : (pks (rndK q)).length = (pks q).length ∧ (plt (rndK q)).length = (plt q).length := by
  unfold rndK; split
  · exact rnd_len q
  · exact ⟨rfl, rfl⟩
theorem rnd_rows (q : Pc) : pks (rnd q) = pks q ∧ plt (rnd q) = plt q := by unfold rnd; split <;> exact ⟨rfl, rfl⟩
theorem rndK_rows (q : Pc) : pks (rndK q) = pks q ∧ plt (rndK q) = plt q := by
  unfold rndK; split
  · exact rnd_rows q
  · exact ⟨rfl, rfl⟩
theorem ksum_map_rnd (l : List Pc) : ksum (l.map rndK) = ksum l := by
  induction l with
  | nil => rfl
  | cons q l ih => rw [List.map_cons, ksum_cons, ksum_cons, ih, (rndK_len q).1]
theorem tsum_map_rnd (l : List Pc) : tsum (l.map rndK) = tsum l := by
  induction l with
  | nil => rfl
  | cons q l ih => rw [List.map_cons, tsum_cons, tsum_cons, ih, (rndK_len q).2]
theorem pok_rnd {q : Pc} (h : pok q) : pok (rnd q) := by
  unfold rnd; split
  · exact ⟨h.1, Or.inr (Or.inr rfl), h.2.2.1, h.2.2.2⟩
  · exact ⟨h.1, Or.inr (Or.inl rfl), h.2.2.1, h.2.2.2⟩
theorem pok_rndK {q : Pc} (h : pok q) : pok (rndK q) := by
  unfold rndK; split
  · exact pok_rnd h
  · exact h
theorem mkk_sums (kind E : Int) (f : Nat → Int) (n : Nat) : ksum (mkk kind E f n) = n ∧ tsum (mkk kind E f n) = 0 ∧ (mkk kind E f n).length ≤ n := by
  unfold mkk mk
  split
  · rw [ksum_map_rnd, tsum_map_rnd, List.length_map]
    exact ⟨ksum_mkGo _ _ _ _ _ (Nat.le_refl _), tsum_mkGo _ _ _ _ _, len_mkGo _ _ _ _ _⟩
  · exact ⟨ksum_mkGo _ _ _ _ _ (Nat.le_refl _), tsum_mkGo _ _ _ _ _, len_mkGo _ _ _ _ _⟩
theorem pok_mkk {kind E : Int} {f : Nat → Int} {n : Nat} (hE : 0 ≤ E ∧ E ≤ 40) (hk : kind = 2 → 1 ≤ E) (hf : okF f n) (hn : n ≤ 600) : ∀ q, q ∈ mkk kind E f n → pok q := by
  intro q hq
  unfold mkk at hq
  split at hq
  · obtain ⟨x, hx, rfl⟩ := List.mem_map.mp hq
    exact pok_rndK (pok_mkGo (by have := hk (by assumption); omega) _ _ _ hf hn x hx)
  · exact pok_mkGo hE _ _ _ hf hn q hq
theorem c_replace {M : Im} {t t' fr to n : Nat} {kind made E : Int} {f : Nat → Int} {l : List Pc} {Q : Int → Im → Prop} (hC : CT M t t') (hk : K0 ≤ gz M) (hP : Pool M) (hT : TR M t l) (h2 : gI M 0 2 = E) (hE : 0 ≤ E ∧ E ≤ 40) (hki : kind = 2 → 1 ≤ E) (h8 : gI M 0 8 = made) (hm : 0 ≤ made ∧ made + n ≤ 2000000000) (hfr : fr ≤ to) (hto : to ≤ l.length)
    (hl : ksum l ≤ 590) (htl : tsum l ≤ 300) (hok : ∀ q, q ∈ l → pok q) (hfi : ∀ i, i < n → gL M 18 i = f i) (hff : okF f n) (hks : ksum (l.take fr) + n + ksum (l.drop to) ≤ 590) (hts : tsum (l.take fr) + tsum (l.drop to) ≤ 300) (hf : okF (fk (l.take fr ++ mkk kind E f n ++ l.drop to)) (l.take fr ++ mkk kind E f n ++ l.drop to).length)
    (hQ : ∀ M', AgL IX M M' → (∀ j, j ≠ 6 → j ≠ 8 → gI M' 0 j = gI M 0 j) → gI M' 0 8 = made + (mkk kind E f n).length → CT M' t' t → Pool M' → TR M' t' (l.take fr ++ mkk kind E f n ++ l.drop to) → Lay M' (lys E 10 (l.take fr ++ mkk kind E f n ++ l.drop to)) → Q (mkk kind E f n).length M') : sp_X4_replace 0 fr to n kind M Q := by
  obtain ⟨ht, ht', h12, h12', hne, hc, hc', hc3, hc3'⟩ := hC.TL
  have hC' := hC
  obtain ⟨htt, r3, r4⟩ := hC'
  have ft := TL_facts t ht
  have ft' := TL_facts t' ht'
  obtain ⟨-, -, -, -, -, ft1, ft2, -, -, -, ft3, ft4, ft5⟩ := ft
  obtain ⟨-, -, -, -, -, fu1, fu2, -, -, -, fu3, fu4, fu5⟩ := ft'
  have ll := len_le_ksum hok
  have lt1 := ksum_take_le l fr
  have tt1 := tsum_take_le l fr
  have lfr : (l.take fr).length ≤ ksum (l.take fr) := len_le_ksum (fun q hq => hok q (List.mem_of_mem_take hq))
  have efr : (l.take fr).length = fr := by rw [List.length_take]; omega
  obtain ⟨s1, s2, s3⟩ := mkk_sums kind E f n
  have a18 : alen 18 = 600 := rfl
  unfold sp_X4_replace
  refine ⟨iO_c hk (by decide) rfl, ?_⟩
  rintro r20 rfl
  refine ⟨t', r4, TL_O ht' hk, c_empty hk ht' fun M22 g22 T22 => ?_⟩
  have k22 := g22.k0 hk
  have P22 : Pool M22 := hP.ag g22 (fun v hv => by have := TL_facts v hv; obtain ⟨-, -, -, -, -, fv1, fv2, -, -, -, fv3, fv4, fv5⟩ := this; omega)
  have U22 : TR M22 t l := hT.ag g22 (fun b h1 h2 => by omega) (fun b hb => by omega)
  rintro r23 rfl r24 rfl
  rw [g22.R (by omega), g22.R (by omega), r3, r4]
  refine ⟨t', rfl, TL_O ht' k22, ?_⟩
  refine c_takeOver (r := 0) (to := fr) ht' ht hne (Nat.zero_le _) (by omega) (by omega) (by omega) (by omega) hok k22 T22 U22 P22 (by rw [List.drop_zero, ksum_nil]; omega) (by rw [List.drop_zero, tsum_nil]; omega) (by simp; omega) fun M26 F26 P26 T26 U26 => ?_
  rw [List.nil_append, List.drop_zero] at T26
  obtain ⟨x1, x2, x3, x4⟩ := F26.X ht' h12' (fun b h => h.elim) P26
  have k26 : K0 ≤ gz M26 := Nat.le_trans k22 x1.1
  have G26 : AgL IX M M26 := (g22.mono (fun b hb => Or.inr (Or.inl (by omega)))).toL.trans x1
  have eI26 : ∀ j, gI M26 0 j = gI M 0 j := fun j => by rw [x2, g22.I (by omega)]
  have eR26 : ∀ j, gR M26 0 j = gR M 0 j := fun j => by rw [x3, g22.R (by omega)]
  have eL26 : ∀ j, gL M26 18 j = gL M 18 j := fun j => by rw [x4, g22.L (by omega)]
  rw [eI26, h2]
  -- makePieces
  have step : ∀ m : Int, 0 ≤ m ∧ m ≤ 40 → (kind ≠ 2 → m = E) → (kind = 2 → m = E - 1) → sp_X4_replace_39 0 fr to n kind m M26 Q := by
    intro m hm40 hm1 hm2
    have lenmk : (mk m E f n).length ≤ n := len_mkGo _ _ _ _ _
    have okmk : ∀ q, q ∈ mk m E f n → pok q := fun q hq => pok_mkGo hm40 _ _ _ hff (by omega) q hq
    have ksmk : ksum (mk m E f n) = n := ksum_mkGo _ _ _ _ _ (Nat.le_refl _)
    have tsmk : tsum (mk m E f n) = 0 := tsum_mkGo _ _ _ _ _
    unfold sp_X4_replace_39
    rintro r1 rfl
    rw [eR26, r4, eI26, h2]
    refine ⟨t', rfl, TL_O ht' k26, ?_⟩
    refine c_makePieces (f := f) ht' (by decide) (by decide) (by omega) (by decide) hm40 (by omega) k26 (iA_c k26 (by decide) ⟨_, rfl⟩) (fun i hi => by rw [eL26]; exact hfi i hi) hff T26 P26 (by omega) (by omega) fun M3 F3 P3 T3 => ?_
    obtain ⟨y1, y2, y3, y4⟩ := F3.X ht' h12' (fun b h => h) P3
    have k3 : K0 ≤ gz M3 := Nat.le_trans k26 y1.1
    have U3 : TR M3 t l := U26.other ht' ht hne (by omega) F3 P3 (fun b hb => by omega)
    have C3 : CT M3 t t' := ⟨htt, by rw [y3, eR26]; exact r3, by rw [y3, eR26]; exact r4⟩
    refine ⟨fun h => ?_, fun h => ?_⟩
    · have em : mkk kind E f n = mk m E f n := by unfold mkk; rw [if_neg h, hm1 h]
      rw [em] at hQ hf
      refine c_replace_83 (made := made) C3 k3 P3 U3 T3 (by rw [y2, eI26]; exact h2) hE (by rw [y2, eI26]; exact h8) (by omega) hto hl htl hok (fun q hq => (List.mem_append.mp hq).elim (fun w => hok q (List.mem_of_mem_take w)) (okmk q)) (by rw [ksum_app, ksum_app]; omega) (by rw [tsum_app, tsum_app]; omega) hf fun M' g1 g2 g3 g4 g5 g6 g7 => ?_
      exact hQ M' ((G26.trans y1).trans g1) (fun j h6 h8 => by rw [g2 j h6 h8, y2, eI26]) g3 g4 g5 g6 g7
    · rintro r5 rfl
      rw [y3, eR26, r4]
      refine ⟨t', rfl, TL_O ht' k3, by omega, ?_⟩
      have em : mkk kind E f n = (mk m E f n).map rndK := by unfold mkk; rw [if_pos h, hm2 h]
      have el : (l.take fr ++ mk m E f n).length = fr + (mk m E f n).length := by rw [List.length_append, efr]
      rw [show (fr : Int) + ((mk m E f n).length : Nat) = (((l.take fr ++ mk m E f n).length : Nat) : Int) by rw [el]; omega]
      refine c_roundPieces ht' (by rw [el]; omega) k3 T3 P3 (by rw [el]; omega) (by rw [ksum_app]; omega) (fun q hq => (List.mem_append.mp hq).elim (fun w => hok q (List.mem_of_mem_take w)) (okmk q)) fun M7 F7 P7 T7 => ?_
      have e1 : (l.take fr ++ mk m E f n).take fr = l.take fr := by rw [List.take_append_of_le_length (by omega), List.take_take, Nat.min_self]
      have e2 : (l.take fr ++ mk m E f n).drop fr = mk m E f n := by
        have := List.drop_left (l₁ := l.take fr) (l₂ := mk m E f n)
        rw [efr] at this; exact this
      rw [e1, e2, ← em] at T7
      obtain ⟨z1, z2, z3, z4⟩ := F7.X ht' h12' (fun b h => h.elim) P7
      have U7 : TR M7 t l := U3.other ht' ht hne (by omega) F7 P7 (fun b hb => hb.elim)
      have C7 : CT M7 t t' := ⟨htt, by rw [z3, y3, eR26]; exact r3, by rw [z3, y3, eR26]; exact r4⟩
      have elen : (mkk kind E f n).length = (mk m E f n).length := by rw [em, List.length_map]
      rw [← elen]
      refine c_replace_83 (made := made) C7 (Nat.le_trans k3 z1.1) P7 U7 T7 (by rw [z2, y2, eI26]; exact h2) hE (by rw [z2, y2, eI26]; exact h8) (by omega) hto hl htl hok (fun q hq => (List.mem_append.mp hq).elim (fun w => hok q (List.mem_of_mem_take w)) (pok_mkk hE hki hff (by omega) q)) (by rw [ksum_app, ksum_app]; omega) (by rw [tsum_app, tsum_app]; omega) hf fun M' g1 g2 g3 g4 g5 g6 g7 => ?_
      exact hQ M' (((G26.trans y1).trans z1).trans g1) (fun j h6 h8 => by rw [g2 j h6 h8, z2, y2, eI26]) g3 g4 g5 g6 g7
  refine ⟨fun h => step E hE (fun _ => rfl) (fun w => absurd w h), fun h => ⟨by omega, step (E - 1) (by have := hki h; omega) (fun w => absurd h w) (fun _ => rfl)⟩⟩
