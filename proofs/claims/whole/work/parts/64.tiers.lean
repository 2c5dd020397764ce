/-! ===== a tier emptied, filled, one piece changed, pieces rounded ===== -/
theorem c_empty {M : Im} {t : Nat} {Q : Im → Prop} (hk : K0 ≤ gz M) (ht : t ∈ TL) (hQ : ∀ M', Ag (· = t) M M' → TR M' t [] → Q M') : sp_X2_empty t M Q := by
  unfold sp_X2_empty
  refine ⟨TL_O ht hk, ?_⟩
  rintro M1 rfl M2 rfl M3 rfl
  refine hQ _ ((((Ag.refl (S := (· = t))).pI rfl).pI rfl).pI rfl) ⟨by simp [gI_pI, gI_pL, gI_pD, gI_pR, gI_pnw, gI_pcp, gL_pI, gL_pL, gL_pD, gL_pR, gL_pnw, gL_pcp, gD_pI, gD_pL, gD_pD, gD_pR, gD_pnw, gD_pcp, gR_pI, gR_pL, gR_pD, gR_pR, gR_pnw, gR_pcp, gz_pI, gz_pL, gz_pD, gz_pR, gz_pnw, gz_pcp, ksum_nil], by simp [gI_pI, gI_pL, gI_pD, gI_pR, gI_pnw, gI_pcp, gL_pI, gL_pL, gL_pD, gL_pR, gL_pnw, gL_pcp, gD_pI, gD_pL, gD_pD, gD_pR, gD_pnw, gD_pcp, gR_pI, gR_pL, gR_pD, gR_pR, gR_pnw, gR_pcp, gz_pI, gz_pL, gz_pD, gz_pR, gz_pnw, gz_pcp, tsum_nil], by simp [gI_pI, gI_pL, gI_pD, gI_pR, gI_pnw, gI_pcp, gL_pI, gL_pL, gL_pD, gL_pR, gL_pnw, gL_pcp, gD_pI, gD_pL, gD_pD, gD_pR, gD_pnw, gD_pcp, gR_pI, gR_pL, gR_pD, gR_pR, gR_pnw, gR_pcp, gz_pI, gz_pL, gz_pD, gz_pR, gz_pnw, gz_pcp], fun p q h => by simp at h⟩
theorem c_makePieces {M : Im} {t src n : Nat} {m E : Int} {f : Nat → Int} {l : List Pc} {Q : Int → Im → Prop} (ht : t ∈ TL) (h17 : src ≠ 17) (hsr : src < 97) (hst : ¬ (t ≤ src ∧ src ≤ t + 4)) (hal : alen src ≤ 600) (hm : 0 ≤ m ∧ m ≤ 40) (hn : n ≤ alen src) (hk : K0 ≤ gz M) (hA : iA M src .long) (hfi : ∀ i, i < n → gL M src i = f i) (hf : okF f n)
    (hT : TR M t l) (hP : Pool M) (hK : ksum l + n ≤ cap t) (hL : l.length + n ≤ cap t) (hQ : ∀ M', Fr (· = 17) t M M' → Pool M' → TR M' t (l ++ mk m E f n) → Q ((mk m E f n).length : Nat) M') : sp_X2_makePieces t (some src) n m E (some 17) M Q := by
  unfold sp_X2_makePieces
  refine ⟨TL_O ht hk, n + 1, ?_⟩
  have h := c_makePieces_6 (E := E) (Q := Q) (K49 := fun x6 M => Q x6 M) (K95 := fun x6 M => Q x6 M) ht h17 hsr hst hal hm n n 0 0 (Nat.le_refl _) (by omega) (Nat.le_refl _) (by omega) hk hA (fun i hi => by rw [Nat.zero_add]; exact hfi i hi) hf hT hP hK hL (fun M' F P T => by
    have := hQ M' F P T
    show Q (((0 : Nat) : Int) + ((mk m E f n).length : Nat)) M'
    rw [show ((0 : Nat) : Int) + ((mk m E f n).length : Nat) = ((mk m E f n).length : Nat) by omega]
    exact this)
  rw [show ((0 : Nat) : Int) + (n : Int) = (n : Int) by omega] at h
  exact h
theorem ksum_set : ∀ {l : List Pc} {p : Nat} {q q' : Pc}, l[p]? = some q → (pks q').length = (pks q).length → ksum (l.set p q') = ksum l
  | [], p, q, q', h, e => by simp at h
  | x :: l, 0, q, q', h, e => by
    simp at h
    subst h
    rw [List.set_cons_zero, ksum_cons, ksum_cons, e]
  | x :: l, p + 1, q, q', h, e => by
    rw [List.set_cons_succ, ksum_cons, ksum_cons, ksum_set (l := l) (p := p) (by simpa using h) e]
theorem tsum_set : ∀ {l : List Pc} {p : Nat} {q q' : Pc}, l[p]? = some q → (plt q').length = (plt q).length → tsum (l.set p q') = tsum l
  | [], p, q, q', h, e => by simp at h
  | x :: l, 0, q, q', h, e => by
    simp at h
    subst h
    rw [List.set_cons_zero, tsum_cons, tsum_cons, e]
  | x :: l, p + 1, q, q', h, e => by
    rw [List.set_cons_succ, tsum_cons, tsum_cons, tsum_set (l := l) (p := p) (by simpa using h) e]
theorem ksum_take_set {l : List Pc} {p : Nat} {q q' : Pc} (h : l[p]? = some q) (e : (pks q').length = (pks q).length) (r : Nat) : ksum ((l.set p q').take r) = ksum (l.take r) := by
  rw [List.take_set]
  rcases Nat.lt_or_ge p r with hp | hp
  · exact ksum_set (by rw [List.getElem?_take, if_pos hp]; exact h) e
  · rw [List.set_eq_of_length_le (by rw [List.length_take]; omega)]
theorem tsum_take_set {l : List Pc} {p : Nat} {q q' : Pc} (h : l[p]? = some q) (e : (plt q').length = (plt q).length) (r : Nat) : tsum ((l.set p q').take r) = tsum (l.take r) := by
  rw [List.take_set]
  rcases Nat.lt_or_ge p r with hp | hp
  · exact tsum_set (by rw [List.getElem?_take, if_pos hp]; exact h) e
  · rw [List.set_eq_of_length_le (by rw [List.length_take]; omega)]
/-- one piece's object is changed -/
theorem TR.set {M M' : Im} {t a p : Nat} {l : List Pc} {q q' : Pc} (h : TR M t l) (ht : t ∈ TL) (hP : Pool M) (hl : l.length ≤ cap t) (hq : l[p]? = some q) (ha : gR M (t + 4) p = some a) (ha97 : 97 ≤ a) (g : Ag (· = a) M M') (hPR : PR M' t a (ksum (l.take p)) (tsum (l.take p)) q') (e1 : (pks q').length = (pks q).length) (e2 : (plt q').length = (plt q).length) : TR M' t (l.set p q') := by
  have ft := TL_facts t ht
  obtain ⟨-, -, -, -, -, ft1, ft2, -⟩ := ft
  obtain ⟨h1, h2, h3, h4⟩ := h
  have hp := (List.getElem?_eq_some_iff.mp hq).1
  refine ⟨by rw [g.I (by omega), ksum_set hq e1]; exact h1, by rw [g.I (by omega), tsum_set hq e2]; exact h2, by rw [g.I (by omega), List.length_set]; exact h3, fun r x hr => ?_⟩
  rw [ksum_take_set hq e1, tsum_take_set hq e2]
  by_cases hrp : r = p
  · subst hrp
    rw [List.getElem?_set_self hp] at hr
    cases hr
    obtain ⟨a', f1, f2, f3, -⟩ := h4 r q hq
    rw [ha] at f1
    cases f1
    exact ⟨a, by rw [g.R (by omega)]; exact ha, f2, by rw [g.1]; exact f3, hPR⟩
  · rw [List.getElem?_set_ne (by omega)] at hr
    obtain ⟨a', f1, f2, f3, f4⟩ := h4 r x hr
    have hr' := (List.getElem?_eq_some_iff.mp hr).1
    have hne : a' ≠ a := fun w => hrp (hP.inj ht ht (by omega) (by omega) f1 (by rw [ha, w])).2
    exact ⟨a', by rw [g.R (by omega)]; exact f1, f2, by rw [g.1]; exact f3, f4.frame (fun j => g.I hne j) (fun j => g.L hne j) (fun j => g.D hne j) (fun i _ => g.L (by omega) i) (fun i _ => g.I (by omega) i) (fun i _ => g.L (by omega) i)⟩
/-- what is asked of a piece: its guesses may be told, its marks are marks -/
def pok (q : Pc) : Prop := gok q ∧ kik q ∧ kbd q ∧ (∀ i, i < (pks q).length → df q i = 0 ∨ df q i = 1)
def rndK (q : Pc) : Pc := if pki q = 1 then rnd q else q
theorem rnd_len (q : Pc) : (pks (rnd q)).length = (pks q).length ∧ (plt (rnd q)).length = (plt q).length := by
  unfold rnd; split <;> exact ⟨rfl, rfl⟩
theorem c_roundPieces_2 {t : Nat} {Q : Im → Prop} {K : Im → Prop} (ht : t ∈ TL) : ∀ (d r : Nat) {M : Im} {l : List Pc}, r + d = l.length → K0 ≤ gz M → TR M t l → Pool M → l.length ≤ cap t → ksum l ≤ cap t → (∀ q, q ∈ l → pok q) →
    (∀ M', Fr (fun _ => False) t M M' → Pool M' → TR M' t (l.take r ++ (l.drop r).map rndK) → K M') → sp_X2_roundPieces_2 (d + 1) t l.length r M Q K
  | 0, r, M, l, h, hk, hT, hP, hl, hK, hok, hQ => by
    unfold sp_X2_roundPieces_2
    refine ⟨fun _ => hQ M Fr.refl hP ?_, fun h => by omega⟩
    rw [List.take_of_length_le (by omega), List.drop_of_length_le (by omega)]
    simpa using hT
  | d + 1, r, M, l, h, hk, hT, hP, hl, hK, hok, hQ => by
    have hcap := TL_cap ht
    unfold sp_X2_roundPieces_2
    refine ⟨fun h => by omega, fun _ => ?_⟩
    refine c_pieceAt hk ht hT hl (fun p q a hp hq ha1 ha2 hr hPR => ⟨fun h => (by cases h), fun a3 ha3 => ?_⟩) (fun h => absurd (by omega) h)
    cases ha3
    obtain rfl : p = r := by omega
    have hq' := hok q (List.mem_of_getElem? hq)
    have ed : l.drop p = q :: l.drop (p + 1) := by
      have hlt := (List.getElem?_eq_some_iff.mp hq)
      rw [List.drop_eq_getElem_cons hlt.1, hlt.2]
    refine ⟨iO_hi ha1 ha2, ?_⟩
    rw [hPR.1.1]
    refine ⟨fun h1 => ?_, fun h1 => ?_⟩
    · unfold sp_X2_roundPieces_35
      refine ⟨by omega, ?_⟩
      rintro i7 rfl
      have e3 : (p : Int) + 1 = ((p + 1 : Nat) : Int) := by omega
      rw [e3]
      refine c_roundPieces_2 ht d (p + 1) (by omega) hk hT hP hl hK hok fun M' F P T => hQ M' F P ?_
      rw [ed, List.map_cons, show rndK q = q by unfold rndK; rw [if_neg h1]]
      rw [take_succ_of hq, List.append_assoc, List.singleton_append] at T
      exact T
    · have hn1 := ksum_in hq
      refine c_turnRounded hk ht ha1 ha2 hPR hT.1 hn1 hK hq'.1 hq'.2.2.1 fun M5 g5 hPR5 => ?_
      obtain ⟨e1, e2⟩ := rnd_len q
      have T5 := hT.set ht hP hl hq hr ha1 g5 hPR5 e1 e2
      have hp := (List.getElem?_eq_some_iff.mp hq).1
      have P5 : Pool M5 := hP.ag g5 (fun u hu => by have := TL_facts u hu; omega)
      have F5 : Fr (fun _ => False) t M M5 := Fr.ofAg g5 (fun b hb => Or.inr (Or.inr ⟨p, by omega, by rw [hb]; exact hr⟩)) (by have := TL_facts t ht; omega)
      unfold sp_X2_roundPieces_35
      refine ⟨by omega, ?_⟩
      rintro i7 rfl
      have e3 : (p : Int) + 1 = ((p + 1 : Nat) : Int) := by omega
      rw [e3]
      have key := c_roundPieces_2 (Q := Q) (K := K) ht d (p + 1) (M := M5) (l := l.set p (rnd q)) (by rw [List.length_set]; omega) (g5.k0 hk) T5 P5 (by rw [List.length_set]; exact hl) (by rw [ksum_set hq e1]; exact hK) (fun x hx => ?_) (fun M' F P T => hQ M' (F5.trans F) P ?_)
      · rw [List.length_set] at key
        exact key
      · rcases List.mem_or_eq_of_mem_set hx with hx | rfl
        · exact hok x hx
        · unfold rnd; split
          · exact ⟨hq'.1, Or.inr (Or.inr rfl), hq'.2.2.1, hq'.2.2.2⟩
          · exact ⟨hq'.1, Or.inr (Or.inl rfl), hq'.2.2.1, hq'.2.2.2⟩
      · rw [ed, List.map_cons, show rndK q = rnd q by unfold rndK; rw [if_pos h1]]
        rw [take_succ_of (List.getElem?_set_self hp), List.drop_set_of_lt (by omega), List.take_set, List.set_eq_of_length_le (by rw [List.length_take]; omega), List.append_assoc, List.singleton_append] at T
        exact T
theorem c_roundPieces {M : Im} {t r : Nat} {l : List Pc} {Q : Im → Prop} (ht : t ∈ TL) (hr : r ≤ l.length) (hk : K0 ≤ gz M) (hT : TR M t l) (hP : Pool M) (hl : l.length ≤ cap t) (hK : ksum l ≤ cap t) (hok : ∀ q, q ∈ l → pok q)
    (hQ : ∀ M', Fr (fun _ => False) t M M' → Pool M' → TR M' t (l.take r ++ (l.drop r).map rndK) → Q M') : sp_X2_roundPieces t r l.length M Q := by
  unfold sp_X2_roundPieces
  exact ⟨TL_O ht hk, l.length - r + 1, c_roundPieces_2 (Q := Q) (K := fun M => Q M) ht (l.length - r) r (by omega) hk hT hP hl hK hok hQ⟩
