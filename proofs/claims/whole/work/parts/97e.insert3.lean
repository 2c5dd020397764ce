/-! ===== insert: the class ===== -/
theorem c_isFull {M : Im} {t : Nat} {l : List Pc} {Q : Int → Im → Prop} (hk : K0 ≤ gz M) (ht : t ∈ TL) (hT : TR M t l) (h1 : ksum l + tsum l < cap t) (h2 : tsum l < alen (t + 3)) (hQ : Q 0 M) : sp_X2_isFull t M Q := by
  have hc := TL_cap ht
  unfold sp_X2_isFull
  rw [hT.1, hT.2.1, TL_l1 ht]
  exact ⟨TL_O ht hk, by omega, fun h => by omega, fun _ => ⟨fun _ => ⟨Or.inl rfl, hQ⟩, fun h => by omega⟩⟩
theorem set_away {l : List Pc} {p : Nat} {q' x : Pc} (h : x ∈ (l.set p q').take p ∨ x ∈ (l.set p q').drop (p + 1)) : x ∈ l := by
  rcases h with h | h
  · obtain ⟨i, hi⟩ := List.mem_iff_getElem?.mp h
    rw [List.getElem?_take] at hi
    split at hi
    · rw [List.getElem?_set_ne (by omega)] at hi
      exact List.mem_of_getElem? hi
    · simp at hi
  · obtain ⟨i, hi⟩ := List.mem_iff_getElem?.mp h
    rw [List.getElem?_drop, List.getElem?_set_ne (by omega)] at hi
    exact List.mem_of_getElem? hi
theorem st_insert {n : Nat} {M : Im} (h : Good n M) (hn : n < 512) (k : Int) : sp_X4_insert 0 k M (fun z M1 => sp_X5_insert 69 k M1 (Fin_ n z)) := by
  obtain ⟨r, E, l, Y, mk_, an, w, lk, hc, hm, hw⟩ := h
  have G := Good.same hc hm hw hn
  obtain ⟨f1, f2, f3, f4, f5, f6, f7, f8, f9, f10⟩ := hw.facts
  obtain ⟨hk, hP, ⟨t, t', hC, hT⟩, hL, ⟨c1, c2, c7, c8, c9⟩, -⟩ := id hc
  obtain ⟨ht, ht', h12, -, -, hcap, -, h300, -⟩ := hC.TL
  have m23 := m23_iff hm.1.2.2.2.1
  have hg := hw.2.2.2.2.2.1
  have wE := hw.2.2.1
  have wmk := hw.2.2.2.2.2.2.2.2.1
  have wan := hw.2.2.2.2.2.2.2.2.2.1
  have wn := hw.1
  have wks := hw.2.2.2.2.2.2.1
  unfold sp_X4_insert
  refine ⟨iO_c hk (by decide) rfl, c_hasIndex hk hC hT (fun he => ⟨fun _ => c_isKey (fun hi => ⟨fun _ => ?_, fun h => (by omega)⟩) (fun hi => ⟨fun h => absurd rfl h, fun _ => ?_⟩), fun h => (by omega)⟩) (fun he => ⟨fun h => absurd rfl h, fun _ => ?_⟩)⟩
  · obtain ⟨q1, q2, q3⟩ := hw.find he k
    rintro r5 rfl
    rw [hC.2.1, hL.1]
    have hq : l[fpc k Y]? = some (fq k l Y) := pcAt_get q3
    have hgd := hw.2.2.2.1.1 _ (List.mem_of_getElem? hq)
    have hl15 := hw.2.2.2.2.1 _ (List.mem_of_getElem? hq)
    have hfi : fi k l Y < (pks (fq k l Y)).length := dsc_lt hgd.1 hgd.2.1
    have kin := ksum_in hq
    have tin := tsum_in hq
    refine c_trial hc hw hC hT he hi fun M6 g6 hc6 C6 T6 a3 a4 a5 a6 => ?_
    have hm6 := hm.ag g6 (fun b hb => by omega)
    have k6 := g6.k0 hk
    have P6 := hc6.2.1
    have L6 := hc6.2.2.2.1
    have e7 : gI M6 0 7 = (GT l).length := hc6.2.2.2.2.1.2.2.1
    rw [a3, e7]
    have f01 := fans01 k l Y
    refine ⟨fun hne1 => ?_, fun h1 => ?_⟩
    · have h0 : fans k l Y = 0 := by omega
      have hh : ¬ (kf (fq k l Y) (fi k l Y) = k ∧ df (fq k l Y) (fi k l Y) = 0) := fun hh => by
        unfold fans at h0
        rw [if_pos hh] at h0
        omega
      refine ⟨fun hfull => ?_, fun hlt => ?_⟩
      · exact d_insert k6 hm6 hw hn he hi (fun h => absurd h0 h) (fun _ _ M' g m => ⟨rfl, Good.same (hc6.ag g (fun b hb => Or.inr hb)) m hw hn⟩) (fun _ h => by omega) (fun _ h => by omega) (fun _ h => by omega)
      · have htG := tsum_GT l
        rintro r7 rfl
        refine ⟨t, C6.2.1, TL_O ht k6, ?_⟩
        refine c_isFull k6 ht T6 (by omega) (by omega) ⟨fun _ => ?_, fun h => absurd rfl h⟩
        rw [e7]
        refine ⟨by omega, ?_⟩
        rintro M11 rfl
        have g11 : Ag (· = 0) M6 (pI M6 0 7 (((GT l).length : Int) + 1)) := (Ag.refl (S := (· = 0))).pI rfl
        have b7 : gI (pI M6 0 7 (((GT l).length : Int) + 1)) 0 7 = ((GT l).length : Int) + 1 := by simp [gI_pI, gI_pL, gI_pD, gI_pR, gI_pnw, gI_pcp, gL_pI, gL_pL, gL_pD, gL_pR, gL_pnw, gL_pcp, gD_pI, gD_pL, gD_pD, gD_pR, gD_pnw, gD_pcp, gR_pI, gR_pL, gR_pD, gR_pR, gR_pnw, gR_pcp, gz_pI, gz_pL, gz_pD, gz_pR, gz_pnw, gz_pcp]
        have bo : ∀ j, j ≠ 7 → gI (pI M6 0 7 (((GT l).length : Int) + 1)) 0 j = gI M6 0 j := fun j hj => by simp only [gI_pI, gI_pL, gI_pD, gI_pR, gI_pnw, gI_pcp, gL_pI, gL_pL, gL_pD, gL_pR, gL_pnw, gL_pcp, gD_pI, gD_pL, gD_pD, gD_pR, gD_pnw, gD_pcp, gR_pI, gR_pL, gR_pD, gR_pR, gR_pnw, gR_pcp, gz_pI, gz_pL, gz_pD, gz_pR, gz_pnw, gz_pcp]; rw [if_neg (by omega)]
        have bR : ∀ j, gR (pI M6 0 7 (((GT l).length : Int) + 1)) 0 j = gR M6 0 j := fun j => rfl
        generalize pI M6 0 7 (((GT l).length : Int) + 1) = M11 at g11 b7 bo bR
        have ft := TL_facts t ht
        have P11 : Pool M11 := P6.ag g11 (fun v hv => by have := TL_facts v hv; omega)
        have T11 : TR M11 t l := T6.ag g11 (fun b h1 h2 => by omega) (fun b hb => by omega)
        have C11 : CT M11 t t' := ⟨C6.1, by rw [bR]; exact C6.2.1, by rw [bR]; exact C6.2.2⟩
        have L11 : Lay M11 Y := L6.ixAg g11 (fun b hb => by omega) (bo 6 (by omega))
        have GX11 : AgL IX M6 M11 := (g11.mono fun b hb => Or.inl hb).toL
        have k11 := g11.k0 k6
        have e15 : ∀ j, gI M11 15 j = gI M6 15 j := fun j => g11.I (by omega) j
        rintro r12 rfl
        refine ⟨t, C11.2.1, TL_O ht k11, ?_⟩
        rw [e15 5, a5]
        -- what a change of the tier gives
        have cls : ∀ (M14 : Im) (q' : Pc), Fr (fun _ => False) t M11 M14 → Pool M14 → TR M14 t (l.set (fpc k Y) q') → (GT (l.set (fpc k Y) q')).length = (GT l).length + 1 → AgL IX M6 M14 ∧ CT M14 t t' ∧ CI M14 r E (l.set (fpc k Y) q') Y mk_ an w lk ∧ MI M14 r E l Y mk_ an w lk ∧ K0 ≤ gz M14 := by
          intro M14 q' F14 P14 T14 gl
          obtain ⟨x1, x2, x3, x4⟩ := F14.X ht h12 (fun b h => h.elim) P14
          have GX : AgL IX M6 M14 := GX11.trans x1
          have C14 : CT M14 t t' := ⟨C11.1, by rw [x3]; exact C11.2.1, by rw [x3]; exact C11.2.2⟩
          exact ⟨GX, C14, hc6.anew GX P14 C14 T14 (L11.frI f8 ht h12 F14 P14) ⟨by rw [x2, bo 1 (by omega)], by rw [x2, bo 2 (by omega)]⟩ (by rw [x2, b7, gl]; omega) (by rw [x2, bo 8 (by omega)]; exact hc6.2.2.2.2.1.2.2.2.1) (by rw [x2, bo 9 (by omega)]; exact hc6.2.2.2.2.1.2.2.2.2), IX_m GX hm6, GX.k0 k6⟩
        refine c_restore k11 ht P11 T11 (by omega) hq hfi (fun hno => ⟨fun _ => ?_, fun h => absurd rfl h⟩) (fun hyes M14 F14 P14 T14 => ⟨fun h => by omega, fun _ => ?_⟩)
        · -- a late key more
          have hkn : kf (fq k l Y) (fi k l Y) ≠ k := fun e => hh ⟨e, Classical.byContradiction fun e2 => hno ⟨e, e2⟩⟩
          obtain ⟨pw, pg, pk, pt⟩ := ins_pure hw he hi h0 hkn
          have sle : (fls k l Y).1 ≤ (plt (fq k l Y)).length := (lsc_le (tf (fq k l Y)) k (plt (fq k l Y)).length).1
          have il := insL_len (q := fq k l Y) (i := (fls k l Y).1) (k := k) sle
          rintro i16 rfl r17 rfl
          refine ⟨t, C11.2.1, TL_O ht k11, ?_⟩
          rw [e15 4, a4, e15 6, a6 hh]
          refine c_putLate k11 ht P11 T11 (by omega) (by omega) hq sle fun M19 F19 P19 T19 => ?_
          obtain ⟨GX, C19, hc19, hm19, k19⟩ := cls M19 _ F19 P19 T19 pg
          generalize hq' : insL (fq k l Y) (fls k l Y).1 k = q' at *
          have e2 : pks q' = pks (fq k l Y) := by rw [← hq']; rfl
          have e3 : kf q' 0 = kf (fq k l Y) 0 := by rw [← hq']; rfl
          refine ⟨fun hle => ?_, fun hgt => ?_⟩
          · have hwl : WF (n + 1) r E (l.set (fpc k Y) q') Y mk_ an w lk := hw.set hn hq pw e3 (by omega) (by omega) ⟨by rw [e2], by omega⟩
            refine d_insert k19 hm19 hw hn he hi (fun h => absurd h0 h) (fun _ h => by omega) (fun _ _ h => absurd h hkn) (fun _ _ _ _ M' g m => ?_) (fun _ _ _ h => by omega)
            rw [hq'] at m
            exact ⟨rfl, r, E, _, Y, mk_, an, w, lk, hc19.ag g (fun b hb => Or.inr hb), m, hwl⟩
          · have e9 : gI M19 0 9 = an := hc19.2.2.2.2.1.2.2.2.2
            rw [e9]
            refine ⟨by omega, ?_⟩
            rintro M21 rfl
            have g21 : Ag (· = 0) M19 (pI M19 0 9 (an + 1)) := (Ag.refl (S := (· = 0))).pI rfl
            have d9 : gI (pI M19 0 9 (an + 1)) 0 9 = an + 1 := by simp [gI_pI, gI_pL, gI_pD, gI_pR, gI_pnw, gI_pcp, gL_pI, gL_pL, gL_pD, gL_pR, gL_pnw, gL_pcp, gD_pI, gD_pL, gD_pD, gD_pR, gD_pnw, gD_pcp, gR_pI, gR_pL, gR_pD, gR_pR, gR_pnw, gR_pcp, gz_pI, gz_pL, gz_pD, gz_pR, gz_pnw, gz_pcp]
            have dO : ∀ j, j ≠ 9 → gI (pI M19 0 9 (an + 1)) 0 j = gI M19 0 j := fun j hj => by simp only [gI_pI, gI_pL, gI_pD, gI_pR, gI_pnw, gI_pcp, gL_pI, gL_pL, gL_pD, gL_pR, gL_pnw, gL_pcp, gD_pI, gD_pL, gD_pD, gD_pR, gD_pnw, gD_pcp, gR_pI, gR_pL, gR_pD, gR_pR, gR_pnw, gR_pcp, gz_pI, gz_pL, gz_pD, gz_pR, gz_pnw, gz_pcp]; rw [if_neg (by omega)]
            have dR : ∀ j, gR (pI M19 0 9 (an + 1)) 0 j = gR M19 0 j := fun j => rfl
            generalize pI M19 0 9 (an + 1) = M21 at g21 d9 dO dR
            have P21 : Pool M21 := P19.ag g21 (fun v hv => by have := TL_facts v hv; omega)
            have T21 : TR M21 t (l.set (fpc k Y) q') := T19.ag g21 (fun b h1 h2 => by omega) (fun b hb => by omega)
            have C21 : CT M21 t t' := ⟨C19.1, by rw [dR]; exact C19.2.1, by rw [dR]; exact C19.2.2⟩
            have L21 : Lay M21 Y := hc19.2.2.2.1.ixAg g21 (fun b hb => by omega) (dO 6 (by omega))
            have GX21 : AgL IX M19 M21 := (g21.mono fun b hb => Or.inl hb).toL
            have k21 := g21.k0 k19
            have hc21 : CI M21 r E (l.set (fpc k Y) q') Y mk_ (an + 1) w lk := hc19.anew GX21 P21 C21 T21 L21 ⟨dO 1 (by omega), dO 2 (by omega)⟩ (by rw [dO 7 (by omega)]; exact hc19.2.2.2.2.1.2.2.1) (by rw [dO 8 (by omega)]; exact hc19.2.2.2.2.1.2.2.2.1) d9
            have hm21 := IX_m GX21 hm19
            have lset : (l.set (fpc k Y) q').length = l.length := List.length_set
            have tG := tsum_GT (l.set (fpc k Y) q')
            have hR : RepOk (l.set (fpc k Y) q') (fpc k Y) (fpc k Y + 1) := ⟨pw, by omega, by omega, by omega, by omega, by omega, by omega⟩
            obtain ⟨l1, l2, l3, l4, l5⟩ := hR.L
            rintro r22 rfl
            refine ⟨t, C21.2.1, TL_O ht k21, by omega, ?_⟩
            rw [show ((fpc k Y : Nat) : Int) + 1 = ((fpc k Y + 1 : Nat) : Int) by omega]
            refine c_gather k21 ht T21 (by omega) (by omega) (by omega) (by omega) (by omega) (by omega) fun M24 g24 r24 => ⟨by omega, ?_⟩
            rw [l4] at r24 ⊢
            have hc24 := hc21.ag g24 (fun b hb => by omega)
            have hm24 := hm21.ag g24 (fun b hb => by omega)
            refine c_rep (kind := 1) hc24 wE (fun h => by omega) (by omega) hR r24 fun M26 g26 hc26 => ?_
            have hm26 := IX_m g26 hm24
            have k26 := g26.k0 hc24.1
            have hwl := hw.rep (an' := an + 1) (kind := 1) hn (fun h => by omega) hR (fun x hx => hw.2.2.2.2.1 x (set_away hx)) (by omega) (by omega)
            refine d_insert k26 hm26 hw hn he hi (fun h => absurd h0 h) (fun _ h => by omega) (fun _ _ h => absurd h hkn) (fun _ _ _ h => by omega) (fun _ _ _ _ M' g m => ?_)
            rw [hq'] at m
            exact ⟨rfl, r, E, _, _, _, _, w, lk, hc26.ag g (fun b hb => Or.inr hb), m, hwl⟩
        · -- a key of the piece, dropped no more
          have ml := mq_len_setD (d := 0) hfi
          rw [if_neg hyes.2, if_pos rfl] at ml
          have gl := GT_len_set (q' := setD (fq k l Y) (fi k l Y) 0) hq
          obtain ⟨GX, C14, hc14, hm14, k14⟩ := cls M14 _ F14 P14 T14 (by omega)
          have hwl : WF (n + 1) r E (l.set (fpc k Y) (setD (fq k l Y) (fi k l Y) 0)) Y mk_ an w lk := hw.set hn hq (WL_sub hw.2.2.2.1 hq (pgd_setD hgd hfi (Or.inl rfl)) (fun x hx => by rw [vals_setD] at hx; exact hx) (kf_setD _ _ _ _) (fun t ht => ht)) (kf_setD _ _ _ _) hl15 (by omega) ⟨setD_len _ _ _, by show 2 * (plt (fq k l Y)).length + _ ≤ _; omega⟩
          exact d_insert k14 hm14 hw hn he hi (fun h => absurd h0 h) (fun _ h => by omega) (fun _ _ _ M' g m => ⟨rfl, r, E, _, Y, mk_, an, w, lk, hc14.ag g (fun b hb => Or.inr hb), m, hwl⟩) (fun _ _ h => absurd hyes.1 h) (fun _ _ h => absurd hyes.1 h)
    · exact d_insert k6 hm6 hw hn he hi (fun _ M' g m => ⟨rfl, Good.same (hc6.ag g (fun b hb => Or.inr hb)) m hw hn⟩) (fun h => by omega) (fun h => by omega) (fun h => by omega) (fun h => by omega)
  · unfold sp_X5_insert
    exact ⟨iO_c hk (by decide) rfl, fun _ => d_isKey hk (fun h => absurd h hi) (fun _ => ⟨fun h => absurd rfl h, fun _ => ⟨rfl, G⟩⟩), fun h0 => absurd (m23.mp h0) he⟩
  · unfold sp_X5_insert
    exact ⟨iO_c hk (by decide) rfl, fun h => absurd (m23.mpr he) h, fun _ => ⟨rfl, G⟩⟩
