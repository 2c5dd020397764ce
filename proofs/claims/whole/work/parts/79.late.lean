/-! ===== late keys come and go; dropped marks ===== -/
theorem own_of {M : Im} {t p a : Nat} (hp : p < cap t) (h : gR M (t + 4) p = some a) : own M t a := ⟨p, hp, h⟩
/-- what changeLate leaves: late rows of pieces from r on -/
def CL (M M' : Im) (t N p r : Nat) (δ : Int) : Prop := ∀ p' a, p' < N → gR M (t + 4) p' = some a → (∀ j, j ≠ 4 → j ≠ 5 → gI M' a j = gI M a j) ∧ (∀ j, gL M' a j = gL M a j ∧ gD M' a j = gD M a j) ∧ gI M' a 5 = gI M a 5 + (if p' = p ∧ r ≤ p' then δ else 0) ∧ gI M' a 4 = gI M a 4 + (if p < p' ∧ r ≤ p' then δ else 0)
theorem c_changeLate_2 {t N p : Nat} {δ : Int} {Q K : Im → Prop} (ht : t ∈ TL) (hN : N ≤ cap t) (hδ : δ = 1 ∨ δ = -1) :
    ∀ (d r : Nat) {M : Im}, r + d = N → p ≤ r → K0 ≤ gz M → Pool M → gI M t 6 = (N : Nat) → (∀ p' a, r ≤ p' → p' < N → gR M (t + 4) p' = some a → 0 ≤ gI M a 4 ∧ gI M a 4 ≤ 1000 ∧ 0 ≤ gI M a 5 ∧ gI M a 5 ≤ 1000) → (∀ p', p' < N → ∃ a, gR M (t + 4) p' = some a) →
    (∀ M', Ag (own M t) M M' → CL M M' t N p r δ → K M') → sp_X2_changeLate_2 (d + 1) t p δ r M Q K
  | 0, r, M, h, hpr, hk, hP, h6, hb, hex, hQ => by
    unfold sp_X2_changeLate_2
    rw [h6]
    refine ⟨fun _ => hQ M Ag.refl fun p' a hp ha => ⟨fun _ _ _ => rfl, fun _ => ⟨rfl, rfl⟩, ?_, ?_⟩, fun h => by omega⟩
    · rw [if_neg (by omega), Int.add_zero]
    · rw [if_neg (by omega), Int.add_zero]
  | d + 1, r, M, h, hpr, hk, hP, h6, hb, hex, hQ => by
    have hcap := TL_cap ht
    have ft := TL_facts t ht
    obtain ⟨-, -, -, -, -, ft1, ft2, -, ft0, -, ft3, ft4, ft5⟩ := ft
    obtain ⟨a, ha⟩ := hex r (by omega)
    obtain ⟨b4, b4', b5, b5'⟩ := hb r a (Nat.le_refl _) (by omega) ha
    obtain ⟨o1, o2⟩ := own_hi hP ht (own_of (by omega) ha)
    unfold sp_X2_changeLate_2
    rw [h6]
    refine ⟨fun h => by omega, fun _ => ?_⟩
    unfold sp_X2_pieceAt
    rw [h6]
    refine ⟨TL_O ht hk, fun h => by omega, fun _ => ⟨fun h => by omega, fun _ => ⟨by rw [TL_l4]; omega, ?_⟩⟩⟩
    rintro r1 rfl
    rw [show ((r : Nat) : Int).toNat = r by omega, ha]
    refine ⟨fun h => (by cases h), fun a3 ha3 => ?_⟩
    cases ha3
    have tail : ∀ (u v : Int), u = (if r = p then δ else 0) → v = (if r = p then 0 else δ) → sp_X2_changeLate_62 t p δ r (pI (pI M a 5 (gI M a 5 + u)) a 4 (gI M a 4 + v)) Q (fun (x0 : Nat) (x1 : Int) (x2 : Int) (x3 : Int) (M : Im) => sp_X2_changeLate_2 (d + 1) x0 x1 x2 x3 M Q K) K := by
      intro u v hu hv
      unfold sp_X2_changeLate_62
      refine ⟨by omega, ?_⟩
      rintro i7 rfl
      rw [show (r : Int) + 1 = ((r + 1 : Nat) : Int) by omega]
      have g : Ag (· = a) M (pI (pI M a 5 (gI M a 5 + u)) a 4 (gI M a 4 + v)) := ((Ag.refl (S := (· = a))).pI rfl).pI rfl
      have e4 : gI (pI (pI M a 5 (gI M a 5 + u)) a 4 (gI M a 4 + v)) a 4 = gI M a 4 + v := by simp [gI_pI, gI_pL, gI_pD, gI_pR, gI_pnw, gI_pcp, gL_pI, gL_pL, gL_pD, gL_pR, gL_pnw, gL_pcp, gD_pI, gD_pL, gD_pD, gD_pR, gD_pnw, gD_pcp, gR_pI, gR_pL, gR_pD, gR_pR, gR_pnw, gR_pcp, gz_pI, gz_pL, gz_pD, gz_pR, gz_pnw, gz_pcp]
      have e5 : gI (pI (pI M a 5 (gI M a 5 + u)) a 4 (gI M a 4 + v)) a 5 = gI M a 5 + u := by simp [gI_pI, gI_pL, gI_pD, gI_pR, gI_pnw, gI_pcp, gL_pI, gL_pL, gL_pD, gL_pR, gL_pnw, gL_pcp, gD_pI, gD_pL, gD_pD, gD_pR, gD_pnw, gD_pcp, gR_pI, gR_pL, gR_pD, gR_pR, gR_pnw, gR_pcp, gz_pI, gz_pL, gz_pD, gz_pR, gz_pnw, gz_pcp]
      have eo : ∀ j, j ≠ 4 → j ≠ 5 → gI (pI (pI M a 5 (gI M a 5 + u)) a 4 (gI M a 4 + v)) a j = gI M a j := fun j h1 h2 => by simp [gI_pI, gI_pL, gI_pD, gI_pR, gI_pnw, gI_pcp, gL_pI, gL_pL, gL_pD, gL_pR, gL_pnw, gL_pcp, gD_pI, gD_pL, gD_pD, gD_pR, gD_pnw, gD_pcp, gR_pI, gR_pL, gR_pD, gR_pR, gR_pnw, gR_pcp, gz_pI, gz_pL, gz_pD, gz_pR, gz_pnw, gz_pcp, h1, h2]
      have eR : ∀ c j, gR (pI (pI M a 5 (gI M a 5 + u)) a 4 (gI M a 4 + v)) c j = gR M c j := fun c j => rfl
      have eL : ∀ c j, gL (pI (pI M a 5 (gI M a 5 + u)) a 4 (gI M a 4 + v)) c j = gL M c j := fun c j => rfl
      have eD : ∀ c j, gD (pI (pI M a 5 (gI M a 5 + u)) a 4 (gI M a 4 + v)) c j = gD M c j := fun c j => rfl
      generalize pI (pI M a 5 (gI M a 5 + u)) a 4 (gI M a 4 + v) = M1 at g e4 e5 eo eR eL eD
      have inj : ∀ p' b, p' < N → gR M (t + 4) p' = some b → p' ≠ r → b ≠ a := fun p' b h1 h2 h3 w => by
        subst w
        exact h3 (hP.inj ht ht (by omega) (by omega) h2 ha).2
      have P1 : Pool M1 := hP.ag g (fun v hv => by have := TL_facts v hv; omega)
      refine c_changeLate_2 ht hN hδ d (r + 1) (by omega) (by omega) (g.k0 hk) P1 (by rw [g.I (by omega)]; exact h6) (fun p' b hr' hp' hb' => ?_) (fun p' hp' => by obtain ⟨b, hb'⟩ := hex p' hp'; exact ⟨b, by rw [eR]; exact hb'⟩) fun M' g' c' => hQ M' ?_ fun p' b hp' hb' => ?_
      · rw [eR] at hb'
        have q := hb p' b (by omega) hp' hb'
        have hne := inj p' b hp' hb' (by omega)
        rw [g.I hne, g.I hne]; exact q
      · refine (g.mono fun b hb => by subst hb; exact own_of (by omega) ha).trans (g'.mono fun b ⟨q, hq, e⟩ => ⟨q, hq, by rw [eR] at e; exact e⟩)
      · have c := c' p' b hp' (by rw [eR]; exact hb')
        by_cases e : p' = r
        · subst e
          rw [ha] at hb'
          cases hb'
          obtain ⟨c1, c2, c3, c4⟩ := c
          refine ⟨fun j h1 h2 => by rw [c1 j h1 h2, eo j h1 h2], fun j => ⟨by rw [(c2 j).1, eL], by rw [(c2 j).2, eD]⟩, ?_, ?_⟩
          · rw [c3, e5, if_neg (by omega), hu]
            by_cases q : p' = p
            · rw [if_pos q, if_pos ⟨q, Nat.le_refl _⟩]; omega
            · rw [if_neg q, if_neg (fun w => q w.1)]; omega
          · rw [c4, e4, if_neg (by omega), hv]
            by_cases q : p' = p
            · rw [if_pos q, if_neg (by omega)]; omega
            · rw [if_neg q, if_pos ⟨by omega, Nat.le_refl _⟩]; omega
        · have hne := inj p' b hp' hb' e
          obtain ⟨c1, c2, c3, c4⟩ := c
          refine ⟨fun j h1 h2 => by rw [c1 j h1 h2, g.I hne], fun j => ⟨by rw [(c2 j).1, eL], by rw [(c2 j).2, eD]⟩, ?_, ?_⟩
          · rw [c3, g.I hne]
            by_cases q : p' = p ∧ r ≤ p'
            · rw [if_pos q, if_pos ⟨q.1, by omega⟩]
            · rw [if_neg q, if_neg (by omega)]
          · rw [c4, g.I hne]
            by_cases q : p < p' ∧ r ≤ p'
            · rw [if_pos q, if_pos ⟨q.1, by omega⟩]
            · rw [if_neg q, if_neg (by omega)]
    have fin : ∀ (u v : Int), u = (if r = p then δ else 0) → v = (if r = p then 0 else δ) → (¬ (r : Int) = p ↔ ¬ r = p) → sp_X2_changeLate_38 t p δ r a u (gI M a 5) a M Q (fun (x0 : Nat) (x1 : Int) (x2 : Int) (x3 : Int) (M : Im) => sp_X2_changeLate_2 (d + 1) x0 x1 x2 x3 M Q K) K := by
      intro u v hu hv _
      have bu : u = 0 ∨ u = δ := by rw [hu]; split <;> simp
      have bv : v = 0 ∨ v = δ := by rw [hv]; split <;> simp
      unfold sp_X2_changeLate_38
      refine ⟨by omega, ?_⟩
      rintro M5 rfl
      have e4 : gI (pI M a 5 (gI M a 5 + u)) a 4 = gI M a 4 := by simp [gI_pI, gI_pL, gI_pD, gI_pR, gI_pnw, gI_pcp, gL_pI, gL_pL, gL_pD, gL_pR, gL_pnw, gL_pcp, gD_pI, gD_pL, gD_pD, gD_pR, gD_pnw, gD_pcp, gR_pI, gR_pL, gR_pD, gR_pR, gR_pnw, gR_pcp, gz_pI, gz_pL, gz_pD, gz_pR, gz_pnw, gz_pcp]
      rw [e4]
      refine ⟨fun hne => ?_, fun he => ?_⟩
      · unfold sp_X2_changeLate_58
        refine ⟨by omega, ?_⟩
        rintro M6 rfl
        exact tail u δ hu (by rw [if_neg (by omega)])
      · unfold sp_X2_changeLate_58
        rw [if_pos (by omega)] at hv
        subst hv
        refine ⟨by omega, ?_⟩
        rintro M6 rfl
        exact tail u 0 hu (by rw [if_pos (by omega)])
    refine ⟨iO_hi o1 o2, fun hne => ?_, fun he => ?_⟩
    · exact fin 0 δ (by rw [if_neg (by omega)]) (by rw [if_neg (by omega)]) (by omega)
    · exact fin δ 0 (by rw [if_pos (by omega)]) (by rw [if_pos (by omega)]) (by omega)
theorem c_changeLate {M : Im} {t N p : Nat} {δ : Int} {Q : Im → Prop} (ht : t ∈ TL) (hN : N ≤ cap t) (hδ : δ = 1 ∨ δ = -1) (hp : p ≤ N) (hk : K0 ≤ gz M) (hP : Pool M) (h6 : gI M t 6 = (N : Nat)) (hb : ∀ p' a, p' < N → gR M (t + 4) p' = some a → 0 ≤ gI M a 4 ∧ gI M a 4 ≤ 1000 ∧ 0 ≤ gI M a 5 ∧ gI M a 5 ≤ 1000) (hex : ∀ p', p' < N → ∃ a, gR M (t + 4) p' = some a)
    (hQ : ∀ M', Ag (own M t) M M' → CL M M' t N p p δ → Q M') : sp_X2_changeLate t p δ M Q := by
  unfold sp_X2_changeLate
  exact ⟨TL_O ht hk, N - p + 1, c_changeLate_2 (Q := Q) (K := fun M => Q M) ht hN hδ (N - p) p (by omega) (Nat.le_refl _) hk hP h6 (fun p' a _ h1 h2 => hb p' a h1 h2) hex hQ⟩
/-! a tier with one piece's late keys changed -/
theorem tsum_set' : ∀ {l : List Pc} {p : Nat} {q q' : Pc}, l[p]? = some q → tsum (l.set p q') + (plt q).length = tsum l + (plt q').length
  | [], p, q, q', h => by simp at h
  | x :: l, 0, q, q', h => by
    simp at h
    subst h
    rw [List.set_cons_zero, tsum_cons, tsum_cons]; omega
  | x :: l, p + 1, q, q', h => by
    have := tsum_set' (l := l) (p := p) (q' := q') (by simpa using h)
    rw [List.set_cons_succ, tsum_cons, tsum_cons]; omega
theorem tsum_take_set' {l : List Pc} {p : Nat} {q q' : Pc} (h : l[p]? = some q) (r : Nat) : (r ≤ p → tsum ((l.set p q').take r) = tsum (l.take r)) ∧ (p < r → tsum ((l.set p q').take r) + (plt q).length = tsum (l.take r) + (plt q').length) := by
  rw [List.take_set]
  refine ⟨fun hr => ?_, fun hr => ?_⟩
  · rw [List.set_eq_of_length_le (by rw [List.length_take]; omega)]
  · exact tsum_set' (by rw [List.getElem?_take, if_pos hr]; exact h)
theorem TR.late {M M' : Im} {t p : Nat} {l : List Pc} {q q' : Pc} {δ : Int} (h : TR M t l) (hq : l[p]? = some q) (e1 : q'.1 = q.1) (e2 : pks q' = pks q) (eb : ((plt q').length : Int) = (plt q).length + δ) (hz : gz M' = gz M) (hR : ∀ j, gR M' (t + 4) j = gR M (t + 4) j)
    (h4 : gI M' t 4 = gI M t 4) (h6 : gI M' t 6 = gI M t 6) (h5 : gI M' t 5 = gI M t 5 + δ) (r1 : ∀ j, gL M' (t + 1) j = gL M (t + 1) j) (r2 : ∀ j, gI M' (t + 2) j = gI M (t + 2) j) (ob : CL M M' t l.length p p δ)
    (s1 : ∀ j, j < tsum (l.take p) → gL M' (t + 3) j = gL M (t + 3) j) (s2 : ∀ i, i < (plt q').length → gL M' (t + 3) (tsum (l.take p) + i) = tf q' i) (s3 : ∀ j j' : Nat, tsum (l.take (p + 1)) ≤ j → j < tsum l → (j' : Int) = j + δ → gL M' (t + 3) j' = gL M (t + 3) j) : TR M' t (l.set p q') := by
  obtain ⟨a1, a2, a3, a4⟩ := h
  have hp := (List.getElem?_eq_some_iff.mp hq).1
  have ek : (pks q').length = (pks q).length := by rw [e2]
  have ts := tsum_set' (q' := q') hq
  refine ⟨by rw [h4, ksum_set hq ek]; exact a1, by rw [h5, a2]; omega, by rw [h6, List.length_set]; exact a3, fun r x hr => ?_⟩
  rw [ksum_take_set hq ek]
  obtain ⟨t1, t2⟩ := tsum_take_set' (q' := q') hq r
  by_cases hrp : r = p
  · subst hrp
    rw [List.getElem?_set_self hp] at hr
    cases hr
    rw [t1 (Nat.le_refl _)]
    obtain ⟨a, f1, f2, f3, f4⟩ := a4 r q hq
    obtain ⟨c1, c2, c3, c4⟩ := ob r a hp f1
    rw [if_pos ⟨rfl, Nat.le_refl _⟩] at c3
    rw [if_neg (by omega)] at c4
    obtain ⟨⟨g0, g1, g2, g3, g4, g5⟩, ⟨g6, g7, g8⟩, g9, k1, k2⟩ := f4
    refine ⟨a, by rw [hR]; exact f1, f2, by rw [hz]; exact f3, ⟨⟨?_, ?_, ?_, ?_, ?_, ?_⟩, ⟨?_, ?_, ?_⟩, fun h2 => ?_, fun i hi => ?_, s2⟩⟩
    · rw [c1 0 (by omega) (by omega), g0]; unfold pki; rw [e1]
    · rw [c1 1 (by omega) (by omega), g1]; unfold pma; rw [e1]
    · rw [c1 2 (by omega) (by omega)]; exact g2
    · rw [c1 3 (by omega) (by omega), ek]; exact g3
    · rw [c4, g4]; omega
    · rw [c3, g5]; omega
    · rw [(c2 6).1, g6]; unfold pln; rw [e1]
    · rw [(c2 7).1, g7]; unfold pln; rw [e1]
    · rw [(c2 8).1, g8]; unfold pln; rw [e1]
    · have : pki q = 2 := by unfold pki at h2 ⊢; rw [← e1]; exact h2
      rw [(c2 9).2, (c2 10).2, (g9 this).1, (g9 this).2]
      unfold dbA dbB pln; rw [e1]; exact ⟨rfl, rfl⟩
    · rw [ek] at hi
      rw [r1, r2]
      unfold kf df
      rw [e2]
      exact k1 i hi
  · rw [List.getElem?_set_ne (by omega)] at hr
    have hr' := (List.getElem?_eq_some_iff.mp hr).1
    obtain ⟨a, f1, f2, f3, f4⟩ := a4 r x hr
    obtain ⟨c1, c2, c3, c4⟩ := ob r a hr' f1
    rw [if_neg (by omega)] at c3
    obtain ⟨⟨g0, g1, g2, g3, g4, g5⟩, ⟨g6, g7, g8⟩, g9, k1, k2⟩ := f4
    refine ⟨a, by rw [hR]; exact f1, f2, by rw [hz]; exact f3, ⟨⟨?_, ?_, ?_, ?_, ?_, ?_⟩, ⟨?_, ?_, ?_⟩, fun h2 => ?_, fun i hi => ?_, fun i hi => ?_⟩⟩
    · rw [c1 0 (by omega) (by omega)]; exact g0
    · rw [c1 1 (by omega) (by omega)]; exact g1
    · rw [c1 2 (by omega) (by omega)]; exact g2
    · rw [c1 3 (by omega) (by omega)]; exact g3
    · rw [c4, g4]
      rcases Nat.lt_or_ge r p with w | w
      · rw [if_neg (by omega), t1 (by omega)]; omega
      · rw [if_pos (by omega)]; have := t2 (by omega); omega
    · rw [c3, g5]; omega
    · rw [(c2 6).1]; exact g6
    · rw [(c2 7).1]; exact g7
    · rw [(c2 8).1]; exact g8
    · rw [(c2 9).2, (c2 10).2]; exact g9 h2
    · rw [r1, r2]; exact k1 i hi
    · rcases Nat.lt_or_ge r p with w | w
      · rw [t1 (by omega)]
        have h1 := tsum_succ hr
        have h2 : tsum (l.take (r + 1)) ≤ tsum (l.take p) := tsum_mono (by omega)
        rw [s1 _ (by omega)]
        exact k2 i hi
      · have h1 := tsum_in hr
        have h2 : tsum (l.take (p + 1)) ≤ tsum (l.take r) := tsum_mono (by omega)
        have h3 := t2 (by omega)
        rw [s3 (tsum (l.take r) + i) (tsum ((l.set p q').take r) + i) (by omega) (by omega) (by omega)]
        exact k2 i hi
/-! putLate -/
def insL (q : Pc) (i : Nat) (k : Int) : Pc := (q.1, q.2.1, (plt q).take i ++ k :: (plt q).drop i)
def delL (q : Pc) (i : Nat) : Pc := (q.1, q.2.1, (plt q).take i ++ (plt q).drop (i + 1))
theorem insL_len {q : Pc} {i : Nat} {k : Int} (h : i ≤ (plt q).length) : (plt (insL q i k)).length = (plt q).length + 1 := by
  show ((plt q).take i ++ k :: (plt q).drop i).length = _
  simp; omega
theorem delL_len {q : Pc} {i : Nat} (h : i < (plt q).length) : (plt (delL q i)).length + 1 = (plt q).length := by
  show ((plt q).take i ++ (plt q).drop (i + 1)).length + 1 = _
  simp; omega
theorem tf_ins {q : Pc} {i : Nat} {k : Int} (h : i ≤ (plt q).length) (j : Nat) : tf (insL q i k) j = if j < i then tf q j else if j = i then k else tf q (j - 1) := by
  have e : plt (insL q i k) = (plt q).take i ++ k :: (plt q).drop i := rfl
  unfold tf
  rw [e]
  have hl : ((plt q).take i).length = i := by rw [List.length_take]; omega
  by_cases h1 : j < i
  · rw [if_pos h1, List.getElem?_append_left (by omega), List.getElem?_take, if_pos h1]
  · rw [if_neg h1, List.getElem?_append_right (by omega), hl]
    by_cases h2 : j = i
    · subst h2; simp
    · rw [if_neg h2, show j - i = (j - i - 1) + 1 by omega, List.getElem?_cons_succ, List.getElem?_drop, show i + (j - i - 1) = j - 1 by omega]
theorem tf_del {q : Pc} {i : Nat} (h : i < (plt q).length) (j : Nat) : tf (delL q i) j = if j < i then tf q j else tf q (j + 1) := by
  have e : plt (delL q i) = (plt q).take i ++ (plt q).drop (i + 1) := rfl
  unfold tf
  rw [e]
  have hl : ((plt q).take i).length = i := by rw [List.length_take]; omega
  by_cases h1 : j < i
  · rw [if_pos h1, List.getElem?_append_left (by omega), List.getElem?_take, if_pos h1]
  · rw [if_neg h1, List.getElem?_append_right (by omega), hl, List.getElem?_drop, show i + 1 + (j - i) = j + 1 by omega]
theorem c_putLate_44 {t a pl : Nat} {p k : Int} {Q : Int → Im → Prop} {K72 : Nat → Int → Int → Int → Nat → Im → Prop} (ht : t ∈ TL) :
    ∀ (d : Nat) {M : Im}, pl + d < alen (t + 3) → (∀ M', Ag (· = t + 3) M M' → (∀ j, gL M' (t + 3) j = if pl < j ∧ j ≤ pl + d then gL M (t + 3) (j - 1) else gL M (t + 3) j) → K72 t p pl k a M') → sp_X2_putLate_44 (d + 1) t p pl k a ((pl + d : Nat) : Int) M Q K72
  | 0, M, h, hQ => by
    unfold sp_X2_putLate_44
    refine ⟨fun _ => hQ M Ag.refl fun j => ?_, fun h => by omega⟩
    rw [if_neg (by omega)]
  | d + 1, M, h, hQ => by
    have ft := TL_facts t ht
    obtain ⟨-, -, -, -, -, ft1, ft2, -, ft0, -, ft3, ft4, ft5⟩ := ft
    unfold sp_X2_putLate_44
    refine ⟨fun h => by omega, fun _ => ⟨by omega, by omega, by omega, by omega, ?_⟩⟩
    rintro M1 rfl
    refine ⟨by omega, ?_⟩
    rintro i2 rfl
    rw [show ((pl + (d + 1) : Nat) : Int) + -1 = ((pl + d : Nat) : Int) by omega, show ((pl + (d + 1) : Nat) : Int).toNat = pl + (d + 1) by omega, show (((pl + (d + 1) : Nat) : Int) - 1).toNat = pl + d by omega]
    refine c_putLate_44 ht d (by omega) fun M' g' h' => hQ M' (((Ag.refl (S := (· = t + 3))).pL rfl).trans g') fun j => ?_
    rw [h' j]
    simp only [gI_pI, gI_pL, gI_pD, gI_pR, gI_pnw, gI_pcp, gL_pI, gL_pL, gL_pD, gL_pR, gL_pnw, gL_pcp, gD_pI, gD_pL, gD_pD, gD_pR, gD_pnw, gD_pcp, gR_pI, gR_pL, gR_pD, gR_pR, gR_pnw, gR_pcp, gz_pI, gz_pL, gz_pD, gz_pR, gz_pnw, gz_pcp, true_and]
    by_cases c1 : pl < j ∧ j ≤ pl + d
    · rw [if_pos c1, if_neg (show ¬ (j - 1 = pl + (d + 1)) by omega), if_pos (show pl < j ∧ j ≤ pl + (d + 1) by omega)]
    · rw [if_neg c1]
      by_cases c2 : j = pl + (d + 1)
      · rw [if_pos c2, if_pos (by omega)]
        congr 1; omega
      · rw [if_neg c2, if_neg (by omega)]
theorem PRs {M : Im} {t : Nat} {l : List Pc} (hT : TR M t l) (htl : tsum l ≤ 300) : (∀ p' a, p' < l.length → gR M (t + 4) p' = some a → 0 ≤ gI M a 4 ∧ gI M a 4 ≤ 500 ∧ 0 ≤ gI M a 5 ∧ gI M a 5 ≤ 500) ∧ (∀ p', p' < l.length → ∃ a, gR M (t + 4) p' = some a) := by
  refine ⟨fun p' a hp ha => ?_, fun p' hp => ?_⟩
  · obtain ⟨b, e1, e2, e3, e4⟩ := hT.2.2.2 p' _ (List.getElem?_eq_getElem hp)
    rw [ha] at e1
    cases e1
    have h1 := tsum_in (List.getElem?_eq_getElem hp)
    rw [e4.1.2.2.2.2.1, e4.1.2.2.2.2.2]
    omega
  · obtain ⟨b, e1, -⟩ := hT.2.2.2 p' _ (List.getElem?_eq_getElem hp)
    exact ⟨b, e1⟩
/-- what may change when late keys or marks do: the tier -/
def LF (t : Nat) (M M' : Im) : Prop := Fr (fun _ => False) t M M' ∧ Pool M'
theorem c_putLate {M : Im} {t p i : Nat} {k : Int} {q : Pc} {l : List Pc} {Q : Int → Im → Prop} (hk : K0 ≤ gz M) (ht : t ∈ TL) (hP : Pool M) (hT : TR M t l) (hl : l.length ≤ cap t) (hlt : tsum l < alen (t + 3)) (hq : l[p]? = some q) (hi : i ≤ (plt q).length)
    (hQ : ∀ M', Fr (fun _ => False) t M M' → Pool M' → TR M' t (l.set p (insL q i k)) → Q ((plt q).length + 1) M') : sp_X2_putLate t p ((tsum (l.take p) + i : Nat) : Int) k M Q := by
  have ft := TL_facts t ht
  obtain ⟨-, -, -, -, -, ft1, ft2, -, ft0, -, ft3, ft4, ft5⟩ := ft
  have tin := tsum_in hq
  have tsu := tsum_succ hq
  have hp := (List.getElem?_eq_some_iff.mp hq).1
  unfold sp_X2_putLate
  refine ⟨TL_O ht hk, ?_⟩
  refine c_pieceAt hk ht hT hl (fun p' q' a hp' hq' ha1 ha2 hr hPR => ⟨fun h => (by cases h), fun a2 ha2' => ⟨fun h => by omega, fun _ => ?_⟩⟩) (fun h => absurd ⟨by omega, by omega⟩ h)
  cases ha2'
  obtain rfl : p' = p := by omega
  rw [hq] at hq'
  cases hq'
  rw [hT.2.1]
  refine ⟨fun h => by omega, fun _ => ⟨fun _ => ?_, fun h => by omega⟩⟩
  rintro i10 rfl
  refine ⟨tsum l - (tsum (l.take p') + i) + 1, ?_⟩
  have key := c_putLate_44 (t := t) (a := a) (pl := tsum (l.take p') + i) (p := (p' : Int)) (k := k) (Q := Q) (K72 := fun (x0 : Nat) (x1 : Int) (x2 : Int) (x3 : Int) (x5 : Nat) (M : Im) =>
    (0 ≤ x2 ∧ x2 < ((alen (x0 + 3)) : Int)) ∧
    ∀ M3 : Im, M3 = pL M (x0 + 3) x2.toNat x3 →
    (-2147483648 ≤ (gI M3 x0 5) + 1 ∧ (gI M3 x0 5) + 1 < 2147483648) ∧
    ∀ M4 : Im, M4 = pI M3 x0 5 ((gI M3 x0 5) + 1) →
    sp_X2_changeLate x0 x1 1 M4 (fun (M5 : Im) => iO M5 x5 0 ∧ Q (gI M5 x5 5) M5)) ht (tsum l - (tsum (l.take p') + i)) (M := M) (by omega) (fun M1 g1 h1 => ?_)
  · rw [show tsum (l.take p') + i + (tsum l - (tsum (l.take p') + i)) = tsum l by omega] at key
    exact key
  · rw [show tsum (l.take p') + i + (tsum l - (tsum (l.take p') + i)) = tsum l by omega] at h1
    refine ⟨by omega, ?_⟩
    rintro M3 rfl
    rw [show ((tsum (l.take p') + i : Nat) : Int).toNat = tsum (l.take p') + i by omega]
    have e5 : gI (pL M1 (t + 3) (tsum (l.take p') + i) k) t 5 = (tsum l : Nat) := by
      simp only [gI_pI, gI_pL, gI_pD, gI_pR, gI_pnw, gI_pcp, gL_pI, gL_pL, gL_pD, gL_pR, gL_pnw, gL_pcp, gD_pI, gD_pL, gD_pD, gD_pR, gD_pnw, gD_pcp, gR_pI, gR_pL, gR_pD, gR_pR, gR_pnw, gR_pcp, gz_pI, gz_pL, gz_pD, gz_pR, gz_pnw, gz_pcp]; rw [g1.I (by omega)]; exact hT.2.1
    rw [e5]
    refine ⟨by omega, ?_⟩
    rintro M4 rfl
    have g4 : Ag (fun b => b = t ∨ b = t + 3) M (pI (pL M1 (t + 3) (tsum (l.take p') + i) k) t 5 (((tsum l : Nat) : Int) + 1)) := (((g1.mono (S' := fun b => b = t ∨ b = t + 3) (fun b hb => Or.inr hb)).pL (Or.inr rfl)).pI (Or.inl rfl))
    have f5 : gI (pI (pL M1 (t + 3) (tsum (l.take p') + i) k) t 5 (((tsum l : Nat) : Int) + 1)) t 5 = ((tsum l : Nat) : Int) + 1 := by simp [gI_pI, gI_pL, gI_pD, gI_pR, gI_pnw, gI_pcp, gL_pI, gL_pL, gL_pD, gL_pR, gL_pnw, gL_pcp, gD_pI, gD_pL, gD_pD, gD_pR, gD_pnw, gD_pcp, gR_pI, gR_pL, gR_pD, gR_pR, gR_pnw, gR_pcp, gz_pI, gz_pL, gz_pD, gz_pR, gz_pnw, gz_pcp]
    have fo : ∀ j, j ≠ 5 → gI (pI (pL M1 (t + 3) (tsum (l.take p') + i) k) t 5 (((tsum l : Nat) : Int) + 1)) t j = gI M t j := fun j hj => by simp only [gI_pI, gI_pL, gI_pD, gI_pR, gI_pnw, gI_pcp, gL_pI, gL_pL, gL_pD, gL_pR, gL_pnw, gL_pcp, gD_pI, gD_pL, gD_pD, gD_pR, gD_pnw, gD_pcp, gR_pI, gR_pL, gR_pD, gR_pR, gR_pnw, gR_pcp, gz_pI, gz_pL, gz_pD, gz_pR, gz_pnw, gz_pcp]; rw [if_neg (by omega), g1.I (by omega)]
    have fL : ∀ j, gL (pI (pL M1 (t + 3) (tsum (l.take p') + i) k) t 5 (((tsum l : Nat) : Int) + 1)) (t + 3) j = if j = tsum (l.take p') + i then k else if tsum (l.take p') + i < j ∧ j ≤ tsum l then gL M (t + 3) (j - 1) else gL M (t + 3) j := fun j => by simp only [gI_pI, gI_pL, gI_pD, gI_pR, gI_pnw, gI_pcp, gL_pI, gL_pL, gL_pD, gL_pR, gL_pnw, gL_pcp, gD_pI, gD_pL, gD_pD, gD_pR, gD_pnw, gD_pcp, gR_pI, gR_pL, gR_pD, gR_pR, gR_pnw, gR_pcp, gz_pI, gz_pL, gz_pD, gz_pR, gz_pnw, gz_pcp, true_and]; rw [h1 j]
    generalize pI (pL M1 (t + 3) (tsum (l.take p') + i) k) t 5 (((tsum l : Nat) : Int) + 1) = M4 at g4 f5 fo fL
    have P4 : Pool M4 := hP.ag g4 (fun v hv => by have := TL_facts v hv; obtain ⟨-, -, -, -, -, fv1, fv2, -, -, -, fv3, fv4, fv5⟩ := this; omega)
    obtain ⟨pb1, pb2⟩ := PRs hT (by omega)
    have hi97 : ∀ p' a, p' < l.length → gR M (t + 4) p' = some a → 97 ≤ a ∧ a < gz M := fun p' a h1 h2 => by
      obtain ⟨b, e1, e2, e3, -⟩ := hT.2.2.2 p' _ (List.getElem?_eq_getElem h1)
      rw [h2] at e1; cases e1; exact ⟨e2, e3⟩
    refine c_changeLate (N := l.length) ht hl (Or.inl rfl) (by omega) (g4.k0 hk) P4 (by rw [fo 6 (by omega)]; exact hT.2.2.1) (fun p'' b h1 h2 => ?_) (fun p'' h1 => ?_) fun M5 g5 c5 => ?_
    · rw [g4.R (by omega)] at h2
      have := hi97 p'' b h1 h2
      rw [g4.I (by omega), g4.I (by omega)]
      have := pb1 p'' b h1 h2
      omega
    · obtain ⟨b, hb⟩ := pb2 p'' h1
      exact ⟨b, by rw [g4.R (by omega)]; exact hb⟩
    have ow4 : ∀ b, own M4 t b → own M t b ∧ 97 ≤ b := fun b hb => ⟨by obtain ⟨r, h1, h2⟩ := hb; exact ⟨r, h1, by rw [g4.R (by omega)] at h2; exact h2⟩, (own_hi P4 ht hb).1⟩
    have lo : ∀ b, b < 97 → ¬ own M4 t b := fun b h1 h2 => by have := (ow4 b h2).2; omega
    have F4 : Fr (fun _ => False) t M M4 := Fr.ofAg g4 (fun b hb => Or.inr (Or.inl (by omega))) (by omega)
    have F5 : Fr (fun _ => False) t M4 M5 := Fr.ofAg g5 (fun b hb => Or.inr (Or.inr hb)) (lo (t + 4) (by omega))
    have P5 : Pool M5 := P4.ag g5 (fun v hv => lo _ (by have := TL_facts v hv; omega))
    have cl : CL M M5 t l.length p' p' 1 := fun r b hr hb => by
      have hb97 := hi97 r b hr hb
      obtain ⟨c1, c2, c3, c4⟩ := c5 r b hr (by rw [g4.R (by omega)]; exact hb)
      exact ⟨fun j j4 j5 => by rw [c1 j j4 j5, g4.I (by omega)], fun j => ⟨by rw [(c2 j).1, g4.L (by omega)], by rw [(c2 j).2, g4.D (by omega)]⟩, by rw [c3, g4.I (by omega)], by rw [c4, g4.I (by omega)]⟩
    have T5 : TR M5 t (l.set p' (insL q i k)) := by
      refine hT.late (δ := 1) hq rfl rfl (by rw [insL_len hi]; omega) (by rw [g5.1, g4.1]) (fun j => by rw [g5.R (lo _ (by omega)), g4.R (by omega)]) (by rw [g5.I (lo _ (by omega)), fo 4 (by omega)]) (by rw [g5.I (lo _ (by omega)), fo 6 (by omega)]) (by rw [g5.I (lo _ (by omega)), f5, hT.2.1]) (fun j => by rw [g5.L (lo _ (by omega)), g4.L (by omega)]) (fun j => by rw [g5.I (lo _ (by omega)), g4.I (by omega)]) cl (fun j hj => ?_) (fun j hj => ?_) (fun j j' h1 h2 h3 => ?_)
      · rw [g5.L (lo _ (by omega)), fL, if_neg (by omega), if_neg (by omega)]
      · rw [insL_len hi] at hj
        rw [g5.L (lo _ (by omega)), fL, tf_ins hi]
        by_cases c1 : j < i
        · rw [if_neg (by omega), if_neg (by omega), if_pos c1]
          exact hPR.2.2.2.2 j (by omega)
        · rw [if_neg c1]
          by_cases c2 : j = i
          · rw [if_pos c2, if_pos (by omega)]
          · rw [if_neg c2, if_neg (by omega), if_pos (by omega), show tsum (l.take p') + j - 1 = tsum (l.take p') + (j - 1) by omega]
            exact hPR.2.2.2.2 (j - 1) (by omega)
      · obtain rfl : j' = j + 1 := by omega
        rw [g5.L (lo _ (by omega)), fL, if_neg (by omega), if_pos (by omega), Nat.add_sub_cancel]
    have ca := cl p' a hp hr
    refine ⟨iO_hi ha1 (by rw [g5.1, g4.1]; exact ha2), ?_⟩
    have e : gI M5 a 5 = ((plt q).length : Int) + 1 := by
      rw [ca.2.2.1, if_pos ⟨rfl, Nat.le_refl _⟩, hPR.1.2.2.2.2.2]
    rw [e]
    exact hQ M5 (F4.trans F5) P5 T5
/-! takeLate -/
theorem c_takeLate_25 {t pl n : Nat} {p : Int} {Q : Im → Prop} {K53 : Nat → Int → Im → Prop} (ht : t ∈ TL) (hn : n < alen (t + 3)) :
    ∀ (d j0 : Nat) {M : Im}, j0 + d = n → gI M t 5 = (n : Nat) → (∀ M', Ag (· = t + 3) M M' → (∀ j, gL M' (t + 3) j = if j0 ≤ j ∧ j < n then gL M (t + 3) (j + 1) else gL M (t + 3) j) → K53 t p M') → sp_X2_takeLate_25 (d + 1) t p j0 M Q K53
  | 0, j0, M, h, h5, hQ => by
    unfold sp_X2_takeLate_25
    rw [h5]
    refine ⟨fun _ => hQ M Ag.refl fun j => ?_, fun h => by omega⟩
    rw [if_neg (by omega)]
  | d + 1, j0, M, h, h5, hQ => by
    have ft := TL_facts t ht
    obtain ⟨-, -, -, -, -, ft1, ft2, -, ft0, -, ft3, ft4, ft5⟩ := ft
    unfold sp_X2_takeLate_25
    rw [h5]
    refine ⟨fun h => by omega, fun _ => ⟨by omega, by omega, by omega, by omega, ?_⟩⟩
    rintro M1 rfl
    refine ⟨by omega, ?_⟩
    rintro i2 rfl
    rw [show (j0 : Int) + 1 = ((j0 + 1 : Nat) : Int) by omega, show ((j0 : Nat) : Int).toNat = j0 by omega, show ((j0 + 1 : Nat) : Int).toNat = j0 + 1 by omega]
    refine c_takeLate_25 (pl := pl) ht hn d (j0 + 1) (by omega) (by simp only [gI_pI, gI_pL, gI_pD, gI_pR, gI_pnw, gI_pcp, gL_pI, gL_pL, gL_pD, gL_pR, gL_pnw, gL_pcp, gD_pI, gD_pL, gD_pD, gD_pR, gD_pnw, gD_pcp, gR_pI, gR_pL, gR_pD, gR_pR, gR_pnw, gR_pcp, gz_pI, gz_pL, gz_pD, gz_pR, gz_pnw, gz_pcp]; exact h5) fun M' g' h' => hQ M' (((Ag.refl (S := (· = t + 3))).pL rfl).trans g') fun j => ?_
    rw [h' j]
    simp only [gI_pI, gI_pL, gI_pD, gI_pR, gI_pnw, gI_pcp, gL_pI, gL_pL, gL_pD, gL_pR, gL_pnw, gL_pcp, gD_pI, gD_pL, gD_pD, gD_pR, gD_pnw, gD_pcp, gR_pI, gR_pL, gR_pD, gR_pR, gR_pnw, gR_pcp, gz_pI, gz_pL, gz_pD, gz_pR, gz_pnw, gz_pcp, true_and]
    by_cases c1 : j0 + 1 ≤ j ∧ j < n
    · rw [if_pos c1, if_neg (show ¬ (j + 1 = j0) by omega), if_pos (show j0 ≤ j ∧ j < n by omega)]
    · rw [if_neg c1]
      by_cases c2 : j = j0
      · rw [if_pos c2, if_pos (by omega), c2]
      · rw [if_neg c2, if_neg (by omega)]
theorem c_takeLate {M : Im} {t p i : Nat} {q : Pc} {l : List Pc} {Q : Im → Prop} (hk : K0 ≤ gz M) (ht : t ∈ TL) (hP : Pool M) (hT : TR M t l) (hl : l.length ≤ cap t) (hlt : tsum l ≤ alen (t + 3)) (hq : l[p]? = some q) (hi : i < (plt q).length)
    (hQ : ∀ M', Fr (fun _ => False) t M M' → Pool M' → TR M' t (l.set p (delL q i)) → Q M') : sp_X2_takeLate t p ((tsum (l.take p) + i : Nat) : Int) M Q := by
  have ft := TL_facts t ht
  obtain ⟨-, -, -, -, -, ft1, ft2, -, ft0, -, ft3, ft4, ft5⟩ := ft
  have tin := tsum_in hq
  have tsu := tsum_succ hq
  have hp := (List.getElem?_eq_some_iff.mp hq).1
  obtain ⟨a, hr, ha1, ha2, hPR⟩ := hT.2.2.2 p q hq
  unfold sp_X2_takeLate
  rw [hT.2.1]
  refine ⟨TL_O ht hk, fun h => by omega, fun _ => ⟨fun _ => ⟨by omega, ?_⟩, fun h => by omega⟩⟩
  rintro M1 rfl
  rw [show ((tsum l : Nat) : Int) - 1 = ((tsum l - 1 : Nat) : Int) by omega]
  refine ⟨tsum l - 1 - (tsum (l.take p) + i) + 1, ?_⟩
  have g1 : Ag (fun b => b = t ∨ b = t + 3) M (pI M t 5 ((tsum l - 1 : Nat) : Int)) := (Ag.refl (S := fun b => b = t ∨ b = t + 3)).pI (Or.inl rfl)
  have f5 : gI (pI M t 5 ((tsum l - 1 : Nat) : Int)) t 5 = ((tsum l - 1 : Nat) : Int) := by simp [gI_pI, gI_pL, gI_pD, gI_pR, gI_pnw, gI_pcp, gL_pI, gL_pL, gL_pD, gL_pR, gL_pnw, gL_pcp, gD_pI, gD_pL, gD_pD, gD_pR, gD_pnw, gD_pcp, gR_pI, gR_pL, gR_pD, gR_pR, gR_pnw, gR_pcp, gz_pI, gz_pL, gz_pD, gz_pR, gz_pnw, gz_pcp]
  have fo : ∀ j, j ≠ 5 → gI (pI M t 5 ((tsum l - 1 : Nat) : Int)) t j = gI M t j := fun j hj => by simp [gI_pI, gI_pL, gI_pD, gI_pR, gI_pnw, gI_pcp, gL_pI, gL_pL, gL_pD, gL_pR, gL_pnw, gL_pcp, gD_pI, gD_pL, gD_pD, gD_pR, gD_pnw, gD_pcp, gR_pI, gR_pL, gR_pD, gR_pR, gR_pnw, gR_pcp, gz_pI, gz_pL, gz_pD, gz_pR, gz_pnw, gz_pcp, hj]
  have fL0 : ∀ j, gL (pI M t 5 ((tsum l - 1 : Nat) : Int)) (t + 3) j = gL M (t + 3) j := fun j => rfl
  generalize pI M t 5 ((tsum l - 1 : Nat) : Int) = M1 at g1 f5 fo fL0
  refine c_takeLate_25 (n := tsum l - 1) (pl := 0) ht (by omega) (tsum l - 1 - (tsum (l.take p) + i)) (tsum (l.take p) + i) (by omega) f5 fun M4 g2 h2 => ?_
  have g4 : Ag (fun b => b = t ∨ b = t + 3) M M4 := g1.trans (g2.mono (fun b hb => Or.inr hb))
  have f5' : gI M4 t 5 = ((tsum l - 1 : Nat) : Int) := by rw [g2.I (by omega)]; exact f5
  have fo' : ∀ j, j ≠ 5 → gI M4 t j = gI M t j := fun j hj => by rw [g2.I (by omega)]; exact fo j hj
  have fL : ∀ j, gL M4 (t + 3) j = if tsum (l.take p) + i ≤ j ∧ j < tsum l - 1 then gL M (t + 3) (j + 1) else gL M (t + 3) j := fun j => by rw [h2 j, fL0, fL0]
  have P4 : Pool M4 := hP.ag g4 (fun v hv => by have := TL_facts v hv; obtain ⟨-, -, -, -, -, fv1, fv2, -, -, -, fv3, fv4, fv5⟩ := this; omega)
  obtain ⟨pb1, pb2⟩ := PRs hT (by omega)
  have hi97 : ∀ p' a, p' < l.length → gR M (t + 4) p' = some a → 97 ≤ a ∧ a < gz M := fun p' a h1 h2 => by
    obtain ⟨b, e1, e2, e3, -⟩ := hT.2.2.2 p' _ (List.getElem?_eq_getElem h1)
    rw [h2] at e1; cases e1; exact ⟨e2, e3⟩
  refine c_changeLate (N := l.length) ht hl (Or.inr rfl) (by omega) (g4.k0 hk) P4 (by rw [fo' 6 (by omega)]; exact hT.2.2.1) (fun p'' b h1 h2 => ?_) (fun p'' h1 => ?_) fun M5 g5 c5 => ?_
  · rw [g4.R (by omega)] at h2
    have := hi97 p'' b h1 h2
    rw [g4.I (by omega), g4.I (by omega)]
    have := pb1 p'' b h1 h2
    omega
  · obtain ⟨b, hb⟩ := pb2 p'' h1
    exact ⟨b, by rw [g4.R (by omega)]; exact hb⟩
  have lo : ∀ b, b < 97 → ¬ own M4 t b := fun b h1 h2 => by have := (own_hi P4 ht h2).1; omega
  have F4 : Fr (fun _ => False) t M M4 := Fr.ofAg g4 (fun b hb => Or.inr (Or.inl (by omega))) (by omega)
  have F5 : Fr (fun _ => False) t M4 M5 := Fr.ofAg g5 (fun b hb => Or.inr (Or.inr hb)) (lo (t + 4) (by omega))
  have P5 : Pool M5 := P4.ag g5 (fun v hv => lo _ (by have := TL_facts v hv; omega))
  have cl : CL M M5 t l.length p p (-1) := fun r b hr hb => by
    have hb97 := hi97 r b hr hb
    obtain ⟨c1, c2, c3, c4⟩ := c5 r b hr (by rw [g4.R (by omega)]; exact hb)
    exact ⟨fun j j4 j5 => by rw [c1 j j4 j5, g4.I (by omega)], fun j => ⟨by rw [(c2 j).1, g4.L (by omega)], by rw [(c2 j).2, g4.D (by omega)]⟩, by rw [c3, g4.I (by omega)], by rw [c4, g4.I (by omega)]⟩
  have dl := delL_len hi
  refine hQ M5 (F4.trans F5) P5 ?_
  refine hT.late (δ := -1) hq rfl rfl (by omega) (by rw [g5.1, g4.1]) (fun j => by rw [g5.R (lo _ (by omega)), g4.R (by omega)]) (by rw [g5.I (lo _ (by omega)), fo' 4 (by omega)]) (by rw [g5.I (lo _ (by omega)), fo' 6 (by omega)]) (by rw [g5.I (lo _ (by omega)), f5', hT.2.1]; omega) (fun j => by rw [g5.L (lo _ (by omega)), g4.L (by omega)]) (fun j => by rw [g5.I (lo _ (by omega)), g4.I (by omega)]) cl (fun j hj => ?_) (fun j hj => ?_) (fun j j' h1 h2 h3 => ?_)
  · rw [g5.L (lo _ (by omega)), fL, if_neg (by omega)]
  · rw [g5.L (lo _ (by omega)), fL, tf_del hi]
    by_cases c1 : j < i
    · rw [if_neg (by omega), if_pos c1]
      exact hPR.2.2.2.2 j (by omega)
    · rw [if_neg c1, if_pos (by omega), Nat.add_assoc]
      exact hPR.2.2.2.2 (j + 1) (by omega)
  · obtain rfl : j = j' + 1 := by omega
    rw [g5.L (lo _ (by omega)), fL, if_pos (by omega)]
/-! marks -/
def setD (q : Pc) (i : Nat) (d : Int) : Pc := (q.1, (pks q).set i (kf q i, d), q.2.2)
theorem setD_len (q : Pc) (i : Nat) (d : Int) : (pks (setD q i d)).length = (pks q).length := by
  show ((pks q).set i (kf q i, d)).length = _
  rw [List.length_set]
theorem kf_setD (q : Pc) (i : Nat) (d : Int) (j : Nat) : kf (setD q i d) j = kf q j := by
  show (((pks q).set i (kf q i, d))[j]?.getD (0, 0)).1 = kf q j
  by_cases h : i = j
  · subst h
    by_cases hl : i < (pks q).length
    · rw [List.getElem?_set_self hl]; rfl
    · rw [List.set_eq_of_length_le (by omega)]; rfl
  · rw [List.getElem?_set_ne h]; rfl
theorem df_setD {q : Pc} {i : Nat} {d : Int} (h : i < (pks q).length) (j : Nat) : df (setD q i d) j = if j = i then d else df q j := by
  show (((pks q).set i (kf q i, d))[j]?.getD (0, 0)).2 = _
  by_cases e : i = j
  · subst e
    rw [List.getElem?_set_self h, if_pos rfl]; rfl
  · rw [List.getElem?_set_ne e, if_neg (by omega)]; rfl
theorem TR.mark {M : Im} {t p i : Nat} {l : List Pc} {q : Pc} {d : Int} (h : TR M t l) (ht : t ∈ TL) (hq : l[p]? = some q) (hi : i < (pks q).length) : TR (pI M (t + 2) (ksum (l.take p) + i) d) t (l.set p (setD q i d)) := by
  have ft := TL_facts t ht
  obtain ⟨-, -, -, -, -, ft1, ft2, -⟩ := ft
  have g : Ag (· = t + 2) M (pI M (t + 2) (ksum (l.take p) + i) d) := (Ag.refl (S := (· = t + 2))).pI rfl
  have gd : ∀ j, gI (pI M (t + 2) (ksum (l.take p) + i) d) (t + 2) j = if j = ksum (l.take p) + i then d else gI M (t + 2) j := fun j => by simp [gI_pI, gI_pL, gI_pD, gI_pR, gI_pnw, gI_pcp, gL_pI, gL_pL, gL_pD, gL_pR, gL_pnw, gL_pcp, gD_pI, gD_pL, gD_pD, gD_pR, gD_pnw, gD_pcp, gR_pI, gR_pL, gR_pD, gR_pR, gR_pnw, gR_pcp, gz_pI, gz_pL, gz_pD, gz_pR, gz_pnw, gz_pcp]
  generalize pI M (t + 2) (ksum (l.take p) + i) d = M' at g gd
  obtain ⟨h1, h2, h3, h4⟩ := h
  have hp := (List.getElem?_eq_some_iff.mp hq).1
  have e1 := setD_len q i d
  have e2 : (plt (setD q i d)).length = (plt q).length := rfl
  refine ⟨by rw [g.I (by omega), ksum_set hq e1]; exact h1, by rw [g.I (by omega), tsum_set hq e2]; exact h2, by rw [g.I (by omega), List.length_set]; exact h3, fun r x hr => ?_⟩
  rw [ksum_take_set hq e1, tsum_take_set hq e2]
  by_cases hrp : r = p
  · subst hrp
    rw [List.getElem?_set_self hp] at hr
    cases hr
    obtain ⟨a, f1, f2, f3, f4⟩ := h4 r q hq
    obtain ⟨⟨c0, c1, c2, c3, c4, c5⟩, ⟨c6, c7, c8⟩, c9, k1, k2⟩ := f4
    refine ⟨a, by rw [g.R (by omega)]; exact f1, f2, by rw [g.1]; exact f3, ⟨⟨?_, ?_, ?_, ?_, ?_, ?_⟩, ⟨?_, ?_, ?_⟩, fun h2 => ?_, fun j hj => ?_, fun j hj => ?_⟩⟩
    · rw [g.I (by omega)]; exact c0
    · rw [g.I (by omega)]; exact c1
    · rw [g.I (by omega)]; exact c2
    · rw [g.I (by omega), e1]; exact c3
    · rw [g.I (by omega)]; exact c4
    · rw [g.I (by omega)]; exact c5
    · rw [g.L (by omega)]; exact c6
    · rw [g.L (by omega)]; exact c7
    · rw [g.L (by omega)]; exact c8
    · rw [g.D (by omega), g.D (by omega)]; exact c9 h2
    · rw [e1] at hj
      rw [g.L (by omega), gd, kf_setD, df_setD hi]
      refine ⟨(k1 j hj).1, ?_⟩
      by_cases e : j = i
      · rw [if_pos e, if_pos (by omega)]
      · rw [if_neg e, if_neg (by omega)]; exact (k1 j hj).2
    · rw [g.L (by omega)]; exact k2 j hj
  · rw [List.getElem?_set_ne (by omega)] at hr
    obtain ⟨a, f1, f2, f3, f4⟩ := h4 r x hr
    obtain ⟨k1, k2⟩ := f4.2.2.2
    refine ⟨a, by rw [g.R (by omega)]; exact f1, f2, by rw [g.1]; exact f3, ?_⟩
    obtain ⟨⟨c0, c1, c2, c3, c4, c5⟩, ⟨c6, c7, c8⟩, c9, -, -⟩ := f4
    refine ⟨⟨?_, ?_, ?_, ?_, ?_, ?_⟩, ⟨?_, ?_, ?_⟩, fun h2 => ?_, fun j hj => ?_, fun j hj => ?_⟩
    · rw [g.I (by omega)]; exact c0
    · rw [g.I (by omega)]; exact c1
    · rw [g.I (by omega)]; exact c2
    · rw [g.I (by omega)]; exact c3
    · rw [g.I (by omega)]; exact c4
    · rw [g.I (by omega)]; exact c5
    · rw [g.L (by omega)]; exact c6
    · rw [g.L (by omega)]; exact c7
    · rw [g.L (by omega)]; exact c8
    · rw [g.D (by omega), g.D (by omega)]; exact c9 h2
    · have nr : ¬ ksum (l.take r) + j = ksum (l.take p) + i := by
        have s1 := ksum_succ hq
        have s2 := ksum_succ hr
        rcases Nat.lt_or_ge r p with w | w
        · have := ksum_mono (l := l) (p := r + 1) (r := p) (by omega); omega
        · have := ksum_mono (l := l) (p := p + 1) (r := r) (by omega); omega
      rw [g.L (by omega), gd, if_neg nr]; exact k1 j hj
    · rw [g.L (by omega)]; exact k2 j hj
theorem Fr.mark {M : Im} {t j : Nat} {d : Int} : Fr (fun _ => False) t M (pI M (t + 2) j d) := Fr.ofAg ((Ag.refl (S := (· = t + 2))).pI rfl) (fun b hb => Or.inr (Or.inl (by omega))) (by omega)
theorem Pool.mark {M : Im} {t j : Nat} {d : Int} (h : Pool M) : Pool (pI M (t + 2) j d) := h.same rfl (fun _ _ _ => rfl)
theorem c_markDropped {M : Im} {t p i : Nat} {q : Pc} {l : List Pc} {Q : Im → Prop} (hk : K0 ≤ gz M) (ht : t ∈ TL) (hP : Pool M) (hT : TR M t l) (hK : ksum l ≤ cap t) (hq : l[p]? = some q) (hi : i < (pks q).length)
    (hQ : ∀ M', Fr (fun _ => False) t M M' → Pool M' → TR M' t (l.set p (setD q i 1)) → Q M') : sp_X2_markDropped t ((ksum (l.take p) + i : Nat) : Int) M Q := by
  have hc := TL_cap ht
  have kin := ksum_in hq
  unfold sp_X2_markDropped
  rw [hT.1, TL_l2 ht, show ((ksum (l.take p) + i : Nat) : Int).toNat = ksum (l.take p) + i by omega]
  refine ⟨TL_O ht hk, fun h => by omega, fun _ => ⟨fun h => by omega, fun _ => ⟨by omega, ?_⟩⟩⟩
  rintro M1 rfl
  exact hQ _ Fr.mark hP.mark (hT.mark ht hq hi)
theorem c_restore {M : Im} {t p i : Nat} {k : Int} {q : Pc} {l : List Pc} {Q : Int → Im → Prop} (hk : K0 ≤ gz M) (ht : t ∈ TL) (hP : Pool M) (hT : TR M t l) (hK : ksum l ≤ cap t) (hq : l[p]? = some q) (hi : i < (pks q).length)
    (h0 : ¬ (kf q i = k ∧ df q i ≠ 0) → Q 0 M) (hQ : kf q i = k ∧ df q i ≠ 0 → ∀ M', Fr (fun _ => False) t M M' → Pool M' → TR M' t (l.set p (setD q i 0)) → Q 1 M') : sp_X2_restore t ((ksum (l.take p) + i : Nat) : Int) k M Q := by
  have hc := TL_cap ht
  have kin := ksum_in hq
  obtain ⟨a, e1, e2, e3, e4⟩ := hT.2.2.2 p q hq
  obtain ⟨r1, r2⟩ := e4.2.2.2.1 i hi
  unfold sp_X2_restore
  rw [hT.1, TL_l1 ht, TL_l2 ht, show ((ksum (l.take p) + i : Nat) : Int).toNat = ksum (l.take p) + i by omega, r1, r2]
  refine ⟨TL_O ht hk, fun h => by omega, fun _ => ⟨fun h => by omega, fun _ => ⟨by omega, fun h => h0 fun w => h w.1, fun h => ⟨by omega, fun h' => ⟨by omega, ?_⟩, fun h' => h0 fun w => w.2 h'⟩⟩⟩⟩
  rintro M1 rfl
  exact hQ ⟨h, h'⟩ _ Fr.mark hP.mark (hT.mark ht hq hi)
