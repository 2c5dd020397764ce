/-! ===== takeOver, the whole ===== -/
theorem TR.push2 {M M1 M' : Im} {t src s n a : Nat} {l : List Pc} {q : Pc} (h : TR M t l) (ht : t ∈ TL) (hl : l.length < cap t) (hA : Appd M M1 t src s n a (ksum l) (tsum l) l.length) (g : Ag (fun x => x = t ∨ x = t + 2 ∨ x = t + 3 ∨ x = a) M1 M')
    (k4 : gI M' t 4 = gI M1 t 4) (k6 : gI M' t 6 = gI M1 t 6) (k5 : gI M' t 5 = ((tsum l + (plt q).length : Nat) : Int)) (r2 : ∀ j, j < ksum l → gI M' (t + 2) j = gI M1 (t + 2) j) (r3 : ∀ j, j < tsum l → gL M' (t + 3) j = gL M1 (t + 3) j)
    (hq : PR M' t a (ksum l) (tsum l) q) (hn : (pks q).length = n) : TR M' t (l ++ [q]) := by
  obtain ⟨b1, b2, b3, b4, b5, b6, b6', ⟨b7, b7', b7''⟩, b8, b9, b10⟩ := hA
  obtain ⟨h1, h2, h3, h4⟩ := h
  have ft := TL_facts t ht
  obtain ⟨-, -, -, -, -, ft1, ft2, -, -, -, ft3, ft4, ft5⟩ := ft
  have eT : tsum (l ++ [q]) = tsum l + (plt q).length := by rw [tsum_app, tsum_one]
  have eK : ksum (l ++ [q]) = ksum l + n := by rw [ksum_app, ksum_one, hn]
  refine ⟨by rw [k4, b7, eK], by rw [k5, eT], by rw [k6, b7'']; simp, fun p r hr => ?_⟩
  rcases Nat.lt_or_ge p l.length with hp | hp
  · rw [List.getElem?_append_left hp] at hr
    obtain ⟨a', e1, e2, e3, e4⟩ := h4 p r hr
    have e1' : gR M1 (t + 4) p = some a' := by rw [b6 p (by omega)]; exact e1
    have hne : a' ≠ a := fun w => by
      have := b4.inj ht ht (by omega) hl e1' (by rw [b5, w])
      omega
    have hS : ¬ (a' = t ∨ a' = t + 1 ∨ a' = t + 2 ∨ a' = t + 4 ∨ a' = a) := by omega
    have hS2 : ¬ (a' = t ∨ a' = t + 2 ∨ a' = t + 3 ∨ a' = a) := by omega
    have k1 := ksum_in hr
    have k2 := tsum_in hr
    refine ⟨a', by rw [g.R (by omega)]; exact e1', e2, by rw [g.1]; exact Nat.lt_of_lt_of_le e3 b3.1, ?_⟩
    rw [List.take_append_of_le_length (by omega)]
    exact e4.frame (fun j => by rw [g.I hS2, b3.I hS]) (fun j => by rw [g.L hS2, b3.L hS]) (fun j => by rw [g.D hS2, b3.D hS]) (fun i hi => by rw [g.L (by omega), (b10 i (by omega)).1]) (fun i hi => by rw [r2 i (by omega), (b10 i (by omega)).2]) (fun i hi => by rw [r3 i (by omega), b3.L (by omega)])
  · have hp' : p = l.length := by
      have := (List.getElem?_eq_some_iff.mp hr).1
      simp at this
      omega
    subst hp'
    rw [List.getElem?_append_right (Nat.le_refl _), Nat.sub_self] at hr
    cases hr
    refine ⟨a, by rw [g.R (by omega)]; exact b5, b1, by rw [g.1]; exact b2, ?_⟩
    rw [List.take_left]
    exact hq
theorem c_takeOver_3 {t u to : Nat} {lu : List Pc} {Q : Im → Prop} {K56 K179 : Im → Prop} (ht : t ∈ TL) (hu : u ∈ TL) (hut : u ≠ t) (hto : to ≤ lu.length) (hlu : lu.length ≤ cap u) (hKu : ksum lu ≤ cap u) (hTu : tsum lu ≤ alen (u + 3)) (hok : ∀ q, q ∈ lu → pok q) :
    ∀ (d r : Nat) {M : Im} {l : List Pc}, r + d = to → K0 ≤ gz M → TR M t l → TR M u lu → Pool M → ksum l + ksum ((lu.take to).drop r) ≤ cap t → tsum l + tsum ((lu.take to).drop r) ≤ alen (t + 3) → l.length + d ≤ cap t →
    (∀ M', Fr (fun _ => False) t M M' → Pool M' → TR M' t (l ++ (lu.take to).drop r) → TR M' u lu → K179 M') → sp_X2_takeOver_3 (d + 1) t (some u) to r M Q K56 K179
  | 0, r, M, l, h, hk, hT, hU, hP, hK, hTs, hL, hQ => by
    unfold sp_X2_takeOver_3
    refine ⟨fun _ => hQ M Fr.refl hP ?_ hU, fun h => by omega⟩
    rw [List.drop_of_length_le (by rw [List.length_take]; omega), List.append_nil]; exact hT
  | d + 1, r, M, l, h, hk, hT, hU, hP, hK, hTs, hL, hQ => by
    have hcap := TL_cap ht
    have hcapu := TL_cap hu
    have ft := TL_facts t ht
    have fu := TL_facts u hu
    obtain ⟨-, -, -, -, -, ft1, ft2, -, ft0, -, ft3, ft4, ft5⟩ := ft
    obtain ⟨-, -, -, -, -, fu1, fu2, -, fu0, -, fu3, fu4, fu5⟩ := fu
    unfold sp_X2_takeOver_3
    refine ⟨fun h => by omega, fun _ => ⟨u, rfl, TL_O hu hk, ?_⟩⟩
    refine c_pieceAt hk hu hU hlu (fun p q b hp hq hb1 hb2 hr hPR => ⟨fun h => (by cases h), fun a4 ha4 => ?_⟩) (fun h => absurd (by omega) h)
    cases ha4
    obtain rfl : p = r := by omega
    have hq' := hok q (List.mem_of_getElem? hq)
    have hqt : (lu.take to)[p]? = some q := by rw [List.getElem?_take, if_pos (by omega)]; exact hq
    have ed : (lu.take to).drop p = q :: (lu.take to).drop (p + 1) := by
      have hlt := (List.getElem?_eq_some_iff.mp hqt)
      rw [List.drop_eq_getElem_cons hlt.1, hlt.2]
    rw [ed, ksum_cons] at hK
    rw [ed, tsum_cons] at hTs
    rw [ed] at hQ
    have kin := ksum_in hq
    have tin := tsum_in hq
    have hlen := hq'.1.2.1
    have hpv : ∀ r, r < l.length → gR M (t + 4) r ≠ none := fun r hr w => by
      obtain ⟨a, e1, -⟩ := hT.2.2.2 r _ (List.getElem?_eq_getElem hr)
      rw [w] at e1; cases e1
    refine ⟨iO_hi hb1 hb2, ?_⟩
    rw [hPR.1.2.2.1, hPR.1.2.2.2.1]
    refine c_append hk ht hP hT.1 hT.2.1 hT.2.2.1 (by omega) hlen (by omega) (TL_A1 hu hk) (by rw [TL_l1 hu]; omega) (by rw [TL_l1 hu]; omega) (by omega) (by omega) hpv fun a M4 hAp => ?_
    have hAp' := hAp
    obtain ⟨b1, b2, b3, b4, b5, b6, b6', ⟨b7, b7', b7''⟩, ⟨b8, b8', b8'', b8'''⟩, b9, b10⟩ := hAp'
    have F4 : Fr (fun _ => False) t M M4 := Fr.ofAppd hAp (by omega)
    have U4 : TR M4 u lu := hU.other ht hu hut hlu F4 b4 (fun b hb => hb.elim)
    obtain ⟨b', eb1, eb2, eb3, PU4⟩ := U4.2.2.2 p q hq
    have hbb : b' = b := by
      rw [b3.R (by omega), hr] at eb1
      cases eb1; rfl
    subst hbb
    have hab : a ≠ b' := fun w => by
      have := b4.inj (p := p) (p' := l.length) hu ht (by omega) (by omega) eb1 (by rw [b5, w])
      exact hut this.1
    unfold sp_X2_takeOver_44
    refine ⟨fun h => (by cases h), fun a8 ha8 => ⟨fun h => (by cases h), fun a9 ha9 => ?_⟩⟩
    cases ha8
    cases ha9
    refine ⟨iO_hi b1 b2, c_beLike (iO_hi b1 b2) (iO_hi eb2 eb3) (fun w => hab w.symm) fun M5 g5 v0 v1 v2 v6 v7 v8 v9 v10 => ⟨(pks q).length + 1, ?_⟩⟩
    have PU5 : PR M5 u b' (ksum (lu.take p)) (tsum (lu.take p)) q := PU4.frame (fun j => g5.I (fun w => hab w.symm) j) (fun j => g5.L (fun w => hab w.symm) j) (fun j => g5.D (fun w => hab w.symm) j) (fun i _ => g5.L (by omega) i) (fun i _ => g5.I (by omega) i) (fun i _ => g5.L (by omega) i)
    have k5 : K0 ≤ gz M5 := by rw [g5.1]; exact Nat.le_trans hk b3.1
    refine c_takeOver_67 (K := ksum l) (i := 0) (d := (pks q).length) ht hu hut b1 eb2 (by omega) hKu kin hq'.2.2.2 (by omega) k5 (by rw [g5.1]; exact eb3) PU5 (by rw [g5.I (by omega)]; exact U4.1) (by rw [v2 2 (by omega)]; exact b8) fun M6 g6 w1 w2 => ?_
    have PU6 : PR M6 u b' (ksum (lu.take p)) (tsum (lu.take p)) q := PU5.frame (fun j => g6.I (by omega) j) (fun j => g6.L (by omega) j) (fun j => g6.D (by omega) j) (fun i _ => g6.L (by omega) i) (fun i _ => g6.I (by omega) i) (fun i _ => g6.L (by omega) i)
    unfold sp_X2_takeOver_104
    refine ⟨(plt q).length + 1, ?_⟩
    refine c_takeOver_107 (i := 0) (d := (plt q).length) (T := tsum l) ht hu hut b1 eb2 hab (by omega) hTu tin (by omega) (g6.k0 k5) (by rw [g6.1, g5.1]; exact eb3) PU6 (by rw [g6.I (by omega), g5.I (by omega)]; exact U4.2.1) (by rw [g6.I (by omega), g5.I (by omega)]; exact b7') (by rw [g6.I (by omega), v2 5 (by omega)]; exact b8''') fun M7 g7 y1 y2 y3 y4 y5 y6 => ?_
    have G : Ag (fun x => x = t ∨ x = t + 2 ∨ x = t + 3 ∨ x = a) M4 M7 := ((g5.mono (fun x hx => Or.inr (Or.inr (Or.inr hx)))).trans (g6.mono (fun x hx => Or.inr (Or.inl hx)))).trans (g7.mono (fun x hx => by omega))
    have aI : ∀ j, 2 ≤ j → j ≠ 5 → gI M7 a j = gI M4 a j := fun j hj hj5 => by rw [(y5 j hj5).2, g6.I (by omega), v2 j hj]
    have aL : ∀ j, gL M7 a j = gL M5 a j := fun j => by rw [(y6 j).1, g6.L (by omega)]
    have aD : ∀ j, gD M7 a j = gD M5 a j := fun j => by rw [(y6 j).2, g6.D (by omega)]
    have hPz : PR M7 t a (ksum l) (tsum l) q := by
      obtain ⟨⟨c0, c1, c2, c3, c4, c5⟩, ⟨c6, c7, c8⟩, c9, d1, d2⟩ := PU4
      refine ⟨⟨?_, ?_, ?_, ?_, ?_, ?_⟩, ⟨?_, ?_, ?_⟩, fun h2 => ⟨?_, ?_⟩, fun i hi => ⟨?_, ?_⟩, fun i hi => ?_⟩
      · rw [(y5 0 (by omega)).2, g6.I (by omega), v0]; exact c0
      · rw [(y5 1 (by omega)).2, g6.I (by omega), v1]; exact c1
      · rw [aI 2 (by omega) (by omega)]; exact b8
      · rw [aI 3 (by omega) (by omega)]; exact b8'
      · rw [aI 4 (by omega) (by omega)]; exact b8''
      · rw [y4]
      · rw [aL, v6]; exact c6
      · rw [aL, v7]; exact c7
      · rw [aL, v8]; exact c8
      · rw [aD, v9]; exact (c9 h2).1
      · rw [aD, v10]; exact (c9 h2).2
      · rw [G.L (by omega), (b9 i hi).1]; exact (hPR.2.2.2.1 i hi).1
      · rw [g7.I (by omega)]; exact w1 i (by omega) hi
      · exact y1 i (by omega) hi
    have Tz := TR.push2 hT ht (by omega) hAp G (by rw [(y5 4 (by omega)).1, g6.I (by omega), g5.I (by omega)]) (by rw [(y5 6 (by omega)).1, g6.I (by omega), g5.I (by omega)]) y3 (fun j hj => by rw [g7.I (by omega), w2 j (by omega), g5.I (by omega)]) (fun j hj => by rw [y2 j (by omega), g6.L (by omega), g5.L (by omega)]) hPz rfl
    have Pz : Pool M7 := b4.ag G (fun v hv => by have := TL_facts v hv; obtain ⟨-, -, -, -, -, fv1, fv2, -, -, -, fv3, fv4, fv5⟩ := this; omega)
    have Fz : Fr (fun _ => False) t M4 M7 := Fr.ofAg G (fun x hx => by
      rcases hx with hx | hx | hx | hx
      · exact Or.inr (Or.inl (by omega))
      · exact Or.inr (Or.inl (by omega))
      · exact Or.inr (Or.inl (by omega))
      · exact Or.inr (Or.inr ⟨l.length, by omega, by rw [hx]; exact b5⟩)) (by omega)
    have FF := F4.trans Fz
    have Uz : TR M7 u lu := hU.other ht hu hut hlu FF Pz (fun b hb => hb.elim)
    unfold sp_X2_takeOver_173
    refine ⟨by omega, ?_⟩
    rintro i23 rfl
    have e3 : (p : Int) + 1 = ((p + 1 : Nat) : Int) := by omega
    rw [e3]
    refine c_takeOver_3 ht hu hut hto hlu hKu hTu hok d (p + 1) (by omega) (FF.1.k0 hk) Tz Uz Pz (by rw [ksum_app, ksum_one]; omega) (by rw [tsum_app, tsum_one]; omega) (by simp; omega) fun M' F' P' T' U' => hQ M' (FF.trans F') P' ?_ U'
    rw [List.append_assoc, List.singleton_append] at T'
    exact T'
theorem c_takeOver {M : Im} {t u r to : Nat} {l lu : List Pc} {Q : Im → Prop} (ht : t ∈ TL) (hu : u ∈ TL) (hut : u ≠ t) (hr : r ≤ to) (hto : to ≤ lu.length) (hlu : lu.length ≤ cap u) (hKu : ksum lu ≤ cap u) (hTu : tsum lu ≤ alen (u + 3)) (hok : ∀ q, q ∈ lu → pok q) (hk : K0 ≤ gz M) (hT : TR M t l) (hU : TR M u lu) (hP : Pool M)
    (hK : ksum l + ksum ((lu.take to).drop r) ≤ cap t) (hTs : tsum l + tsum ((lu.take to).drop r) ≤ alen (t + 3)) (hL : l.length + (to - r) ≤ cap t) (hQ : ∀ M', Fr (fun _ => False) t M M' → Pool M' → TR M' t (l ++ (lu.take to).drop r) → TR M' u lu → Q M') : sp_X2_takeOver t (some u) r to M Q := by
  unfold sp_X2_takeOver
  exact ⟨TL_O ht hk, to - r + 1, c_takeOver_3 (Q := Q) (K56 := fun M => Q M) (K179 := fun M => Q M) ht hu hut hto hlu hKu hTu hok (to - r) r (by omega) hk hT hU hP hK hTs hL hQ⟩
