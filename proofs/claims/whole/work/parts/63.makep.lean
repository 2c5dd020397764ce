/-! ===== makePieces ===== -/
theorem TR.push {M M1 M' : Im} {t src s n a : Nat} {l : List Pc} {q : Pc} (h : TR M t l) (ht : t ∈ TL) (hl : l.length < cap t) (hA : Appd M M1 t src s n a (ksum l) (tsum l) l.length) (g : Ag (· = a) M1 M') (hq : PR M' t a (ksum l) (tsum l) q) (hn : (pks q).length = n) (hlt : plt q = []) : TR M' t (l ++ [q]) := by
  obtain ⟨b1, b2, b3, b4, b5, b6, b6', ⟨b7, b7', b7''⟩, b8, b9, b10⟩ := hA
  obtain ⟨h1, h2, h3, h4⟩ := h
  have ft := TL_facts t ht
  obtain ⟨-, -, -, -, -, ft1, ft2, -, -, -, ft3, ft4, ft5⟩ := ft
  have eT : tsum (l ++ [q]) = tsum l := by rw [tsum_app, tsum_one, hlt]; rfl
  have eK : ksum (l ++ [q]) = ksum l + n := by rw [ksum_app, ksum_one, hn]
  refine ⟨by rw [g.I (by omega), b7, eK], by rw [g.I (by omega), b7', eT], by rw [g.I (by omega), b7'']; simp, fun p r hr => ?_⟩
  rcases Nat.lt_or_ge p l.length with hp | hp
  · rw [List.getElem?_append_left hp] at hr
    obtain ⟨a', e1, e2, e3, e4⟩ := h4 p r hr
    have e1' : gR M1 (t + 4) p = some a' := by rw [b6 p (by omega)]; exact e1
    have hne : a' ≠ a := fun w => by
      have := b4.inj ht ht (by omega) hl e1' (by rw [b5, w])
      omega
    have hS : ¬ (a' = t ∨ a' = t + 1 ∨ a' = t + 2 ∨ a' = t + 4 ∨ a' = a) := by omega
    have k1 := ksum_in hr
    have k2 := tsum_in hr
    refine ⟨a', by rw [g.R (by omega)]; exact e1', e2, by rw [g.1]; exact Nat.lt_of_lt_of_le e3 b3.1, ?_⟩
    rw [List.take_append_of_le_length (by omega)]
    exact e4.frame (fun j => by rw [g.I hne, b3.I hS]) (fun j => by rw [g.L hne, b3.L hS]) (fun j => by rw [g.D hne, b3.D hS]) (fun i hi => by rw [g.L (by omega), (b10 i (by omega)).1]) (fun i hi => by rw [g.I (by omega), (b10 i (by omega)).2]) (fun i hi => by rw [g.L (by omega), b3.L (by omega)])
  · have hp' : p = l.length := by
      have := (List.getElem?_eq_some_iff.mp hr).1
      simp at this
      omega
    subst hp'
    rw [List.getElem?_append_right (Nat.le_refl _), Nat.sub_self] at hr
    cases hr
    refine ⟨a, by rw [g.R (by omega)]; exact b5, b1, by rw [g.1]; exact b2, ?_⟩
    rw [List.take_left]
    exact hq
theorem c_beFlat {M : Im} {a : Nat} {E : Int} {Q : Im → Prop} (hO : iO M a 0) (hQ : ∀ M', Ag (· = a) M M' → gI M' a 0 = 0 → gI M' a 1 = E → (∀ j, 2 ≤ j → gI M' a j = gI M a j) → gL M' a 6 = 0 → gL M' a 7 = 1 → gL M' a 8 = 0 → Q M') : sp_X0_beFlat a E M Q := by
  unfold sp_X0_beFlat
  refine ⟨hO, ?_⟩
  rintro M1 rfl M2 rfl M3 rfl M4 rfl M5 rfl
  refine hQ _ ((((((Ag.refl (S := (· = a))).pI rfl).pI rfl).pL rfl).pL rfl).pL rfl) (by simp [gI_pI, gI_pL, gI_pD, gI_pR, gI_pnw, gI_pcp, gL_pI, gL_pL, gL_pD, gL_pR, gL_pnw, gL_pcp, gD_pI, gD_pL, gD_pD, gD_pR, gD_pnw, gD_pcp, gR_pI, gR_pL, gR_pD, gR_pR, gR_pnw, gR_pcp, gz_pI, gz_pL, gz_pD, gz_pR, gz_pnw, gz_pcp]) (by simp [gI_pI, gI_pL, gI_pD, gI_pR, gI_pnw, gI_pcp, gL_pI, gL_pL, gL_pD, gL_pR, gL_pnw, gL_pcp, gD_pI, gD_pL, gD_pD, gD_pR, gD_pnw, gD_pcp, gR_pI, gR_pL, gR_pD, gR_pR, gR_pnw, gR_pcp, gz_pI, gz_pL, gz_pD, gz_pR, gz_pnw, gz_pcp]) (fun j hj => ?_) (by simp [gI_pI, gI_pL, gI_pD, gI_pR, gI_pnw, gI_pcp, gL_pI, gL_pL, gL_pD, gL_pR, gL_pnw, gL_pcp, gD_pI, gD_pL, gD_pD, gD_pR, gD_pnw, gD_pcp, gR_pI, gR_pL, gR_pD, gR_pR, gR_pnw, gR_pcp, gz_pI, gz_pL, gz_pD, gz_pR, gz_pnw, gz_pcp]) (by simp [gI_pI, gI_pL, gI_pD, gI_pR, gI_pnw, gI_pcp, gL_pI, gL_pL, gL_pD, gL_pR, gL_pnw, gL_pcp, gD_pI, gD_pL, gD_pD, gD_pR, gD_pnw, gD_pcp, gR_pI, gR_pL, gR_pD, gR_pR, gR_pnw, gR_pcp, gz_pI, gz_pL, gz_pD, gz_pR, gz_pnw, gz_pcp]) (by simp [gI_pI, gI_pL, gI_pD, gI_pR, gI_pnw, gI_pcp, gL_pI, gL_pL, gL_pD, gL_pR, gL_pnw, gL_pcp, gD_pI, gD_pL, gD_pD, gD_pR, gD_pnw, gD_pcp, gR_pI, gR_pL, gR_pD, gR_pR, gR_pnw, gR_pcp, gz_pI, gz_pL, gz_pD, gz_pR, gz_pnw, gz_pcp])
  simp only [gI_pI, gI_pL, gI_pD, gI_pR, gI_pnw, gI_pcp, gL_pI, gL_pL, gL_pD, gL_pR, gL_pnw, gL_pcp, gD_pI, gD_pL, gD_pD, gD_pR, gD_pnw, gD_pcp, gR_pI, gR_pL, gR_pD, gR_pR, gR_pnw, gR_pcp, gz_pI, gz_pL, gz_pD, gz_pR, gz_pnw, gz_pcp]
  rw [if_neg (by omega), if_neg (by omega)]
theorem okF.shift {f : Nat → Int} {n s : Nat} (h : okF f n) : okF (fun i => f (s + i)) (n - s) := ⟨fun i hi => h.1 _ (by omega), fun i j hij hj => h.2 _ _ (by omega) (by omega)⟩
theorem okF.le {f : Nat → Int} {n s : Nat} (h : okF f n) (hs : s ≤ n) : okF f s := ⟨fun i hi => h.1 _ (by omega), fun i j hij hj => h.2 _ _ hij (by omega)⟩
theorem c_makePieces_6 {t src : Nat} {m E : Int} {Q : Int → Im → Prop} {K49 K95 : Int → Im → Prop} (ht : t ∈ TL) (h17 : src ≠ 17) (hsr : src < 97) (hst : ¬ (t ≤ src ∧ src ≤ t + 4)) (hal : alen src ≤ 600) (hm : 0 ≤ m ∧ m ≤ 40) :
    ∀ (d n st c : Nat) {M : Im} {f : Nat → Int} {l : List Pc}, n ≤ d → n ≤ 600 → c ≤ st → st + n ≤ alen src → K0 ≤ gz M → iA M src .long → (∀ i, i < n → gL M src (st + i) = f i) → okF f n → TR M t l → Pool M → ksum l + n ≤ cap t → l.length + n ≤ cap t →
    (∀ M', Fr (· = 17) t M M' → Pool M' → TR M' t (l ++ mkGo m E d f n) → K95 ((c : Int) + (mkGo m E d f n).length) M') →
    sp_X2_makePieces_6 (d + 1) t (some src) ((st : Int) + n) m E (some 17) c st M Q K49 K95
  | 0, n, st, c, M, f, l, hd, hn, hc, hs, hk, hA, hfi, hf, hT, hP, hK, hL, hQ => by
    obtain rfl : n = 0 := by omega
    unfold sp_X2_makePieces_6
    refine ⟨fun _ => ?_, fun h => by omega⟩
    have := hQ M Fr.refl hP (by unfold mkGo; rw [List.append_nil]; exact hT)
    unfold mkGo at this
    simpa using this
  | d + 1, n, st, c, M, f, l, hd, hn, hc, hs, hk, hA, hfi, hf, hT, hP, hK, hL, hQ => by
    have hcap := TL_cap ht
    have ft := TL_facts t ht
    obtain ⟨-, -, -, -, -, ft1, ft2, -, -, -, ft3, ft4, ft5⟩ := ft
    unfold sp_X2_makePieces_6
    refine ⟨fun h => ?_, fun h => ⟨fun h => by omega, fun _ => ⟨17, rfl, iO_c hk (by decide) rfl, ?_⟩⟩⟩
    · obtain rfl : n = 0 := by omega
      have := hQ M Fr.refl hP (by unfold mkGo; rw [if_pos rfl, List.append_nil]; exact hT)
      unfold mkGo at this
      simpa using this
    have hn0 : n ≠ 0 := by omega
    have hsp := spanLen_pos (m := m) (f := f) (n := n) (by omega)
    have hfit := spanLen_fit m f n
    unfold mkGo at hQ
    rw [if_neg hn0] at hQ
    refine c_endOfSpan hk hA (by omega) hn hs hal hm hf h17 hfi fun M2 g2 hup => ?_
    generalize spanLen m f n = s at *
    refine ⟨by omega, ?_⟩
    rw [show (st : Int) + (s : Nat) - (st : Nat) = (s : Nat) by omega]
    have F2 : Fr (· = 17) t M M2 := Fr.ofAg g2 (fun b hb => Or.inl hb) (by omega)
    have P2 : Pool M2 := hP.ag g2 (fun u hu => by have := TL_facts u hu; omega)
    have T2 : TR M2 t l := by
      obtain ⟨h1, h2, h3, h4⟩ := hT
      refine ⟨by rw [g2.I (by omega)]; exact h1, by rw [g2.I (by omega)]; exact h2, by rw [g2.I (by omega)]; exact h3, fun p q hq => ?_⟩
      obtain ⟨a, e1, e2, e3, e4⟩ := h4 p q hq
      exact ⟨a, by rw [g2.R (by omega)]; exact e1, e2, by rw [g2.1]; exact e3, e4.frame (fun j => g2.I (by omega) j) (fun j => g2.L (by omega) j) (fun j => g2.D (by omega) j) (fun i _ => g2.L (by omega) i) (fun i _ => g2.I (by omega) i) (fun i _ => g2.L (by omega) i)⟩
    have hpv : ∀ r, r < l.length → gR M2 (t + 4) r ≠ none := fun r hr w => by
      obtain ⟨a, e1, -⟩ := T2.2.2.2 r _ (List.getElem?_eq_getElem hr)
      rw [w] at e1; cases e1
    refine c_append (g2.k0 hk) ht P2 T2.1 T2.2.1 T2.2.2.1 (by omega) hsp.1 (by omega) (g2.A hA) (by omega) hal (by omega) hsr hpv fun a M4 hAp => ⟨fun h => (by cases h), fun a6 ha6 => ?_⟩
    cases ha6
    have hAp' := hAp
    obtain ⟨b1, b2, b3, b4, b5, b6, b6', b7, ⟨b8, b8', b8'', b8'''⟩, b9, b10⟩ := hAp'
    have F4 : Fr (· = 17) t M2 M4 := Fr.ofAppd hAp (by omega)
    have hpn : (pks (pcOf m E f s)).length = s := len_pcOf m E f s
    have fin : ∀ Mz, Ag (· = a) M4 Mz → PR Mz t a (ksum l) (tsum l) (pcOf m E f s) → sp_X2_makePieces_85 t (some src) ((st : Int) + n) m E 17 c ((st : Int) + s) Mz Q (fun (x0 : Nat) (x1 : Option Nat) (x2 : Int) (x3 : Int) (x4 : Int) (x5 : Option Nat) (x6 : Int) (x7 : Int) (M : Im) => sp_X2_makePieces_6 (d + 1) x0 x1 x2 x3 x4 x5 x6 x7 M Q K49 K95) K49 K95 := by
      intro Mz gz' hPR
      have Tz := TR.push T2 ht (by omega) hAp gz' hPR hpn rfl
      have Fz : Fr (· = 17) t M4 Mz := Fr.ofAg gz' (fun b hb => Or.inr (Or.inr ⟨l.length, by omega, by rw [hb]; exact b5⟩)) (by omega)
      have Pz : Pool Mz := b4.ag gz' (fun u hu => by have := TL_facts u hu; omega)
      have FF := (F2.trans F4).trans Fz
      unfold sp_X2_makePieces_85
      refine ⟨by omega, ?_⟩
      rintro i11 rfl
      have e1 : (st : Int) + n = ((st + s : Nat) : Int) + ((n - s : Nat) : Int) := by omega
      have e2 : (st : Int) + s = ((st + s : Nat) : Int) := by omega
      have e3 : (c : Int) + 1 = ((c + 1 : Nat) : Int) := by omega
      rw [e1, e2, e3]
      refine c_makePieces_6 ht h17 hsr hst hal hm d (n - s) (st + s) (c + 1) (f := fun i => f (s + i)) (l := l ++ [pcOf m E f s]) (by omega) (by omega) (by omega) (by omega) (FF.1.k0 hk) (FF.1.A hA) (fun i hi => ?_) hf.shift Tz Pz (by rw [ksum_app, ksum_one, hpn]; omega) (by simp; omega) fun M' F' P' T' => ?_
      · rw [gz'.L (by omega), b3.L (by omega), g2.L h17, Nat.add_assoc]
        exact hfi (s + i) (by omega)
      · have h1 := hQ M' (FF.trans F') P' (by rw [List.append_assoc, List.singleton_append] at T'; exact T')
        rw [List.length_cons] at h1
        rw [show ((c + 1 : Nat) : Int) + ((mkGo m E d (fun i => f (s + i)) (n - s)).length : Nat) = (c : Int) + (((mkGo m E d (fun i => f (s + i)) (n - s)).length + 1 : Nat) : Int) by omega]
        exact h1
    have rows : ∀ Mz, Ag (· = a) M4 Mz → (∀ i, i < s → gL Mz (t + 1) (ksum l + i) = kf (pcOf m E f s) i ∧ gI Mz (t + 2) (ksum l + i) = df (pcOf m E f s) i) := fun Mz gz' i hi => by
      rw [gz'.L (by omega), gz'.I (by omega), (b9 i hi).1, (b9 i hi).2, kf_pcOf hi, df_pcOf hi, g2.L h17]
      exact ⟨hfi i (by omega), rfl⟩
    refine ⟨iO_hi b1 b2, c_beFlat (iO_hi b1 b2) fun M8 g8 c0 c1 c2 c6 c7 c8 => ⟨by omega, fun hs1 => ?_, fun hs1 => ?_⟩⟩
    · have hs2 : s = 1 := by omega
      refine fin M8 g8 ⟨⟨?_, c1, ?_, ?_, ?_, ?_⟩, ⟨?_, ?_, ?_⟩, fun h => ?_, fun i hi => rows M8 g8 i (by omega), fun i hi => ?_⟩
      · rw [c0]; unfold pki pcOf; rw [if_pos hs2]
      · rw [c2 2 (by omega)]; exact b8
      · rw [c2 3 (by omega), hpn]; exact b8'
      · rw [c2 4 (by omega)]; exact b8''
      · rw [c2 5 (by omega)]; exact b8'''
      · rw [c6]; unfold pln pcOf; rw [if_pos hs2, if_pos hs2]
      · rw [c7]; unfold pln pcOf; rw [if_pos hs2, if_pos hs2]
      · rw [c8]; unfold pln pcOf; rw [if_pos hs2, if_pos hs2]
      · unfold pki pcOf at h; rw [if_pos hs2] at h; cases h
      · exact absurd hi (Nat.not_lt_zero _)
    · have hs2 : ¬ s = 1 := by omega
      rintro M9 rfl
      have g9 : Ag (· = a) M4 (pI M8 a 0 1) := g8.pI rfl
      have hup9 : upOf st (pI M8 a 0 1) (allF m f (s - 1)) := by
        obtain ⟨u1, u2, u3⟩ := hup
        refine ⟨?_, ?_, fun h => ?_⟩
        · rw [g9.L (by omega), b3.L (by omega)]; exact u1
        · rw [g9.L (by omega), b3.L (by omega)]; exact u2
        · rw [g9.I (by omega), b3.I (by omega)]; exact u3 h
      have huo : UpOk s (allF m f (s - 1)) := by
        have := UpOk_allF (hf.le hsp.2) hm.1 (s - 2) (by omega)
        rw [show s - 2 + 1 = s - 1 by omega] at this
        exact this
      refine c_tellLine (n := s) (f := f) (by rw [g9.1]; exact Nat.le_trans (g2.k0 hk) b3.1) ⟨hA.1, by rw [g9.1]; exact Nat.lt_of_lt_of_le (g2.A hA).2 b3.1⟩ (iO_hi b1 (by rw [g9.1]; exact b2)) (by omega) (by omega) (by omega) (by omega) hal hm (hf.le hsp.2) (fun k hk' => ?_) hup9 (StB_allF (hf.le hsp.2) (by omega) hm (s - 1) (by omega)) huo fun M10 g10 i10 d10 l6 l7 l8 => ?_
      · rw [g9.L (by omega), b3.L (by omega), g2.L h17]; exact hfi k (by omega)
      · have gA := g9.trans g10
        refine fin M10 gA ⟨⟨?_, ?_, ?_, ?_, ?_, ?_⟩, ⟨?_, ?_, ?_⟩, fun h => ?_, fun i hi => rows M10 gA i (by omega), fun i hi => ?_⟩
        · rw [i10]; unfold pki pcOf; rw [if_neg hs2]; simp [gI_pI, gI_pL, gI_pD, gI_pR, gI_pnw, gI_pcp, gL_pI, gL_pL, gL_pD, gL_pR, gL_pnw, gL_pcp, gD_pI, gD_pL, gD_pD, gD_pR, gD_pnw, gD_pcp, gR_pI, gR_pL, gR_pD, gR_pR, gR_pnw, gR_pcp, gz_pI, gz_pL, gz_pD, gz_pR, gz_pnw, gz_pcp]
        · rw [i10]; simp [gI_pI, gI_pL, gI_pD, gI_pR, gI_pnw, gI_pcp, gL_pI, gL_pL, gL_pD, gL_pR, gL_pnw, gL_pcp, gD_pI, gD_pL, gD_pD, gD_pR, gD_pnw, gD_pcp, gR_pI, gR_pL, gR_pD, gR_pR, gR_pnw, gR_pcp, gz_pI, gz_pL, gz_pD, gz_pR, gz_pnw, gz_pcp]; exact c1
        · rw [i10]; simp [gI_pI, gI_pL, gI_pD, gI_pR, gI_pnw, gI_pcp, gL_pI, gL_pL, gL_pD, gL_pR, gL_pnw, gL_pcp, gD_pI, gD_pL, gD_pD, gD_pR, gD_pnw, gD_pcp, gR_pI, gR_pL, gR_pD, gR_pR, gR_pnw, gR_pcp, gz_pI, gz_pL, gz_pD, gz_pR, gz_pnw, gz_pcp]; rw [c2 2 (by omega)]; exact b8
        · rw [i10]; simp [gI_pI, gI_pL, gI_pD, gI_pR, gI_pnw, gI_pcp, gL_pI, gL_pL, gL_pD, gL_pR, gL_pnw, gL_pcp, gD_pI, gD_pL, gD_pD, gD_pR, gD_pnw, gD_pcp, gR_pI, gR_pL, gR_pD, gR_pR, gR_pnw, gR_pcp, gz_pI, gz_pL, gz_pD, gz_pR, gz_pnw, gz_pcp]; rw [c2 3 (by omega), hpn]; exact b8'
        · rw [i10]; simp [gI_pI, gI_pL, gI_pD, gI_pR, gI_pnw, gI_pcp, gL_pI, gL_pL, gL_pD, gL_pR, gL_pnw, gL_pcp, gD_pI, gD_pL, gD_pD, gD_pR, gD_pnw, gD_pcp, gR_pI, gR_pL, gR_pD, gR_pR, gR_pnw, gR_pcp, gz_pI, gz_pL, gz_pD, gz_pR, gz_pnw, gz_pcp]; rw [c2 4 (by omega)]; exact b8''
        · rw [i10]; simp [gI_pI, gI_pL, gI_pD, gI_pR, gI_pnw, gI_pcp, gL_pI, gL_pL, gL_pD, gL_pR, gL_pnw, gL_pcp, gD_pI, gD_pL, gD_pD, gD_pR, gD_pnw, gD_pcp, gR_pI, gR_pL, gR_pD, gR_pR, gR_pnw, gR_pcp, gz_pI, gz_pL, gz_pD, gz_pR, gz_pnw, gz_pcp]; rw [c2 5 (by omega)]; exact b8'''
        · rw [l6]; unfold pln pcOf; rw [if_neg hs2, if_neg hs2]
        · rw [l7]; unfold pln pcOf; rw [if_neg hs2, if_neg hs2]
        · rw [l8]; unfold pln pcOf; rw [if_neg hs2, if_neg hs2]
        · unfold pki pcOf at h; rw [if_neg hs2] at h; cases h
        · exact absurd hi (Nat.not_lt_zero _)
