/-! ===== makeLayers, the loop ===== -/
theorem c_makeLayers_10 {t0 : Nat} {l0 : List Pc} {E : Int} {Q K : Im → Prop} (hE : 0 ≤ E ∧ E ≤ 40) (ht0 : t0 ∈ TL) (ht0' : t0 < 12) (hl0 : l0.length ≤ cap t0) :
    ∀ (d : Nat) {M : Im} {t : Nat} {l : List Pc} {pre : List (List Pc)}, pre.length + d = 10 → K0 ≤ gz M → Pool M → gI M 0 2 = E → gI M 0 6 = pre.length → t ∈ TL → (t < 12 ∨ 19 + 5 * pre.length = t + 5) → TR M t l → TR M t0 l0 →
    (pre.length < 10 → l.length ≤ cap (19 + 5 * pre.length)) → (pre.length = 10 → l.length ≤ 1) → l.length ≤ cap t → ksum l ≤ cap t → (∀ q, q ∈ l → pok q) → okF (fk l) l.length → (∀ j y, pre[j]? = some y → TR M (19 + 5 * j) y ∧ y.length ≤ cap (19 + 5 * j)) →
    (∀ M', FrY M M' → Pool M' → Lay M' (pre ++ lys E d l) → TR M' t0 l0 → K M') → sp_X4_makeLayers_10 (d + 1) 0 (some t) M Q K
  | 0, M, t, l, pre, hd, hk, hP, h2, h6, ht, htt, hT, hT0, hb1, hb2, hl, hK, hok, hf, hpre, hQ => by
    unfold sp_X4_makeLayers_10
    refine ⟨t, rfl, TL_O ht hk, ?_⟩
    rw [hT.2.2.1]
    have := hb2 (by omega)
    refine ⟨fun _ => hQ M FrY.refl hP ?_ hT0, fun h => by omega⟩
    unfold lys
    rw [List.append_nil]
    exact ⟨h6, by omega, fun j y hy => (hpre j y hy).1⟩
  | d + 1, M, t, l, pre, hd, hk, hP, h2, h6, ht, htt, hT, hT0, hb1, hb2, hl, hK, hok, hf, hpre, hQ => by
    have hi : pre.length < 10 := by omega
    unfold sp_X4_makeLayers_10
    refine ⟨t, rfl, TL_O ht hk, ?_⟩
    rw [hT.2.2.1]
    unfold lys at hQ
    refine ⟨fun h => ?_, fun h => ?_⟩
    · rw [if_neg (by omega), List.append_nil] at hQ
      exact hQ M FrY.refl hP ⟨h6, by omega, fun j y hy => (hpre j y hy).1⟩ hT0
    · rw [if_pos (by omega)] at hQ
      rw [h6]
      refine ⟨fun h => by omega, fun _ => ?_⟩
      have hft := TL_facts t ht
      obtain ⟨-, -, -, -, -, ft1, ft2, -, -, -, ft3, ft4, ft5⟩ := hft
      refine c_firstKeys ht hl hK hok hk hT fun M2 g2 hkeys => ?_
      have k2 := g2.k0 hk
      have P2 : Pool M2 := hP.ag g2 (fun u hu => by have := TL_facts u hu; omega)
      have off18 : ∀ u, u ∈ TL → ∀ b, u ≤ b → b ≤ u + 4 → ¬ b = 18 := fun u hu b h1 h2 => by have := TL_facts u hu; obtain ⟨-, -, -, -, -, fu1, fu2, -, -, -, fu3, fu4, fu5⟩ := this; omega
      have T0' : TR M2 t0 l0 := hT0.ag g2 (off18 t0 ht0) (fun b hb => by omega)
      have pre2 : ∀ j y, pre[j]? = some y → TR M2 (19 + 5 * j) y ∧ y.length ≤ cap (19 + 5 * j) := fun j y hy => by
        have hj := (List.getElem?_eq_some_iff.mp hy).1
        exact ⟨(hpre j y hy).1.ag g2 (off18 _ (UT_in (by omega))) (fun b hb => by omega), (hpre j y hy).2⟩
      rw [g2.I (by decide), h6, show ((pre.length : Nat) : Int).toNat = pre.length by omega]
      refine ⟨by have : alen 12 = 10 := rfl; omega, ?_⟩
      rw [UT_z hi]
      rintro r4 rfl
      have hu := UT_in hi
      generalize hue : 19 + 5 * pre.length = u at *
      refine ⟨u, rfl, TL_O hu k2, c_empty k2 hu fun M6 g6 T6 => ?_⟩
      have k6 := g6.k0 k2
      have P6 : Pool M6 := P2.ag g6 (fun v hv => by have := TL_facts v hv; obtain ⟨-, -, -, -, -, fv1, fv2, -, -, -, fv3, fv4, fv5⟩ := this; omega)
      have hlu := hb1 hi
      rw [g6.I (by omega), g2.I (by decide), h2]
      have a18 : alen 18 = 600 := rfl
      have hcu := TL_cap hu
      refine c_makePieces (f := fk l) (l := []) hu (by decide) (by decide) (by omega) (by decide) hE (by omega) k6 (iA_c k6 (by decide) ⟨_, rfl⟩) (fun i hi => by rw [g6.L (by omega)]; exact hkeys i hi) hf T6 P6 (by rw [ksum_nil]; omega) (by simp; omega) fun M7 F7 P7 T7 => ?_
      rw [List.nil_append] at T7
      have Y2 : FrY M M2 := FrY.ofAg g2 (fun b hb => Or.inr (Or.inl hb))
      have Y6 : FrY M2 M6 := FrY.ofAg g6 (fun b hb => Or.inr (Or.inr ⟨by omega, by omega, by omega, pre.length, hi, by omega⟩))
      have Y7 : FrY M6 M7 := by
        subst hue
        exact FrY.ofFr hi (fun b hb => Or.inl hb) F7 P7
      have T07 : TR M7 t0 l0 := (T0'.ag g6 (fun b h1 h2 => by omega) (fun b hb => by omega)).other hu ht0 (by omega) hl0 F7 P7 (fun b hb => by omega)
      have c7 : gI M7 0 6 = pre.length := by
        rw [F7.1.I (fun w => by
          rcases w with w | w | w
          · omega
          · omega
          · have := own_hi P7 hu w; omega), g6.I (by omega), g2.I (by decide)]
        exact h6
      have e7 : gI M7 0 2 = E := by rw [Y7.2.1 2 (by omega), Y6.2.1 2 (by omega), Y2.2.1 2 (by omega)]; exact h2
      rw [c7]
      refine ⟨by omega, ?_⟩
      rintro M9 rfl
      have g9 : Ag (· = 0) M7 (pI M7 0 6 ((pre.length : Int) + 1)) := (Ag.refl (S := (· = 0))).pI rfl
      have hok' : ∀ q, q ∈ mk E E (fk l) l.length → pok q := fun q hq => pok_mkGo hE _ _ _ hf (by omega) q hq
      have hlen := len_mkGo E E l.length (fk l) l.length
      have hlen' : (mk E E (fk l) l.length).length ≤ l.length := hlen
      have hhalf : 2 * (mk E E (fk l) l.length).length ≤ l.length + 1 := len_mkGo_half hE.1 l.length (fk l) l.length hf
      have hks : ksum (mk E E (fk l) l.length) = l.length := ksum_mkGo E E l.length (fk l) l.length (Nat.le_refl _)
      have hpl : (pre ++ [mk E E (fk l) l.length]).length = pre.length + 1 := by simp
      refine c_makeLayers_10 hE ht0 ht0' hl0 d (pre := pre ++ [mk E E (fk l) l.length]) (by rw [hpl]; omega) (by rw [g9.1]; exact Nat.le_trans k6 F7.1.1) (P7.ag g9 (fun v hv => by have := TL_facts v hv; omega)) (by simp only [gI_pI, gI_pL, gI_pD, gI_pR, gI_pnw, gI_pcp, gL_pI, gL_pL, gL_pD, gL_pR, gL_pnw, gL_pcp, gD_pI, gD_pL, gD_pD, gD_pR, gD_pnw, gD_pcp, gR_pI, gR_pL, gR_pD, gR_pR, gR_pnw, gR_pcp, gz_pI, gz_pL, gz_pD, gz_pR, gz_pnw, gz_pcp]; rw [if_neg (by omega)]; exact e7) (by rw [hpl]; simp [gI_pI, gI_pL, gI_pD, gI_pR, gI_pnw, gI_pcp, gL_pI, gL_pL, gL_pD, gL_pR, gL_pnw, gL_pcp, gD_pI, gD_pL, gD_pD, gD_pR, gD_pnw, gD_pcp, gR_pI, gR_pL, gR_pD, gR_pR, gR_pnw, gR_pcp, gz_pI, gz_pL, gz_pD, gz_pR, gz_pnw, gz_pcp]) hu (Or.inr (by rw [hpl]; omega)) (T7.ag g9 (fun b h1 h2 => by omega) (fun b hb => by omega)) (T07.ag g9 (fun b h1 h2 => by have := TL_facts t0 ht0; omega) (fun b hb => by omega)) (fun h => ?_) (fun h => ?_) (by omega) (by rw [hks]; omega) hok' (okF_fk_mk hf) (fun j y hy => ?_) fun M' F' P' L' T0'' => hQ M' ((((Y2.trans Y6).trans Y7).trans FrY.count).trans F') P' (by rw [List.append_assoc, List.singleton_append] at L'; exact L') T0''
      · rw [hpl] at h ⊢
        have hc2 := UT_cap (i := pre.length) (by omega)
        rw [hue] at hc2
        omega
      · rw [hpl] at h
        have h9 : pre.length = 9 := by omega
        have hc9 := UT_cap9
        rw [h9] at hue
        rw [hue] at hc9
        omega
      · rcases Nat.lt_or_ge j pre.length with hj | hj
        · rw [List.getElem?_append_left hj] at hy
          have q := pre2 j y hy
          have hne : 19 + 5 * j ≠ u := by omega
          refine ⟨(((q.1.ag g6 (fun b h1 h2 => by omega) (fun b hb => by omega)).other hu (UT_in (by omega)) hne q.2 F7 P7 (fun b hb => by omega)).ag g9 (fun b h1 h2 => by omega) (fun b hb => by omega)), q.2⟩
        · have hj' := (List.getElem?_eq_some_iff.mp hy).1
          rw [hpl] at hj'
          have hj2 : j = pre.length := by omega
          subst hj2
          rw [List.getElem?_append_right (Nat.le_refl _), Nat.sub_self] at hy
          cases hy
          rw [hue]
          exact ⟨T7.ag g9 (fun b h1 h2 => by omega) (fun b hb => by omega), by omega⟩
theorem c_makeLayers {M : Im} {t0 : Nat} {l0 : List Pc} {E : Int} {Q : Im → Prop} (hE : 0 ≤ E ∧ E ≤ 40) (ht0 : t0 ∈ TL) (ht0' : t0 < 12) (hl0 : l0.length ≤ 600) (hk : K0 ≤ gz M) (hP : Pool M) (h2 : gI M 0 2 = E) (h3 : gR M 0 3 = some t0) (hT : TR M t0 l0) (hc : cap t0 = 600) (hK : ksum l0 ≤ 600) (hok : ∀ q, q ∈ l0 → pok q) (hf : okF (fk l0) l0.length)
    (hQ : ∀ M', FrY M M' → Pool M' → Lay M' (lys E 10 l0) → TR M' t0 l0 → Q M') : sp_X4_makeLayers 0 M Q := by
  have c0 : cap 19 = 600 := by decide +kernel
  have ft := TL_facts t0 ht0
  unfold sp_X4_makeLayers
  refine ⟨iO_c hk (by decide) rfl, ?_⟩
  rintro M10 rfl r11 rfl
  have g : Ag (· = 0) M (pI M 0 6 0) := (Ag.refl (S := (· = 0))).pI rfl
  have e : gR (pI M 0 6 0) 0 3 = some t0 := h3
  rw [e]
  have T' : TR (pI M 0 6 0) t0 l0 := hT.ag g (fun b h1 h2 => by omega) (fun b hb => by omega)
  exact ⟨10 + 1, c_makeLayers_10 (Q := Q) (K := fun M => Q M) hE ht0 ht0' (by omega) 10 (pre := []) (by simp) (by rw [g.1]; exact hk) (hP.ag g (fun v hv => by have := TL_facts v hv; omega)) (by simp only [gI_pI, gI_pL, gI_pD, gI_pR, gI_pnw, gI_pcp, gL_pI, gL_pL, gL_pD, gL_pR, gL_pnw, gL_pcp, gD_pI, gD_pL, gD_pD, gD_pR, gD_pnw, gD_pcp, gR_pI, gR_pL, gR_pD, gR_pR, gR_pnw, gR_pcp, gz_pI, gz_pL, gz_pD, gz_pR, gz_pnw, gz_pcp]; rw [if_neg (by omega)]; exact h2) (by simp [gI_pI, gI_pL, gI_pD, gI_pR, gI_pnw, gI_pcp, gL_pI, gL_pL, gL_pD, gL_pR, gL_pnw, gL_pcp, gD_pI, gD_pL, gD_pD, gD_pR, gD_pnw, gD_pcp, gR_pI, gR_pL, gR_pD, gR_pR, gR_pnw, gR_pcp, gz_pI, gz_pL, gz_pD, gz_pR, gz_pnw, gz_pcp]) ht0 (Or.inl ht0') T' T' (fun _ => by show l0.length ≤ cap 19; omega) (fun h => by simp at h) (by omega) (by omega) hok hf (fun j y hy => by simp at hy) fun M' F P L T => hQ M' (FrY.count.trans F) P (by rw [List.nil_append] at L; exact L) T⟩
