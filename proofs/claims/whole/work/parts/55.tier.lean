/-! ===== the state that is spoken of: pieces, tiers ===== -/
abbrev Ln : Type := Int × Int × Int
/-- (kind, margin, line), keys with their dropped marks, late keys -/
abbrev Pc : Type := (Int × Int × Ln) × List (Int × Int) × List Int
def pki (q : Pc) : Int := q.1.1
def pma (q : Pc) : Int := q.1.2.1
def pln (q : Pc) : Ln := q.1.2.2
def pks (q : Pc) : List (Int × Int) := q.2.1
def plt (q : Pc) : List Int := q.2.2
/-- key, dropped mark and late key of a number -/
def kf (q : Pc) (i : Nat) : Int := ((pks q)[i]?.getD (0, 0)).1
def df (q : Pc) (i : Nat) : Int := ((pks q)[i]?.getD (0, 0)).2
def tf (q : Pc) (i : Nat) : Int := (plt q)[i]?.getD 0
def ksum (l : List Pc) : Nat := (l.map fun q => (pks q).length).sum
def tsum (l : List Pc) : Nat := (l.map fun q => (plt q).length).sum
theorem ksum_nil : ksum [] = 0 := rfl
theorem tsum_nil : tsum [] = 0 := rfl
theorem ksum_app (l l' : List Pc) : ksum (l ++ l') = ksum l + ksum l' := by unfold ksum; simp
theorem tsum_app (l l' : List Pc) : tsum (l ++ l') = tsum l + tsum l' := by unfold tsum; simp
theorem ksum_one (q : Pc) : ksum [q] = (pks q).length := by unfold ksum; simp
theorem tsum_one (q : Pc) : tsum [q] = (plt q).length := by unfold tsum; simp
theorem ksum_cons (q : Pc) (l : List Pc) : ksum (q :: l) = (pks q).length + ksum l := by unfold ksum; simp
theorem tsum_cons (q : Pc) (l : List Pc) : tsum (q :: l) = (plt q).length + tsum l := by unfold tsum; simp
theorem take_succ_of {l : List Pc} {p : Nat} {q : Pc} (h : l[p]? = some q) : l.take (p + 1) = l.take p ++ [q] := by
  rw [List.take_add_one, h]; rfl
theorem ksum_succ {l : List Pc} {p : Nat} {q : Pc} (h : l[p]? = some q) : ksum (l.take (p + 1)) = ksum (l.take p) + (pks q).length := by rw [take_succ_of h, ksum_app, ksum_one]
theorem tsum_succ {l : List Pc} {p : Nat} {q : Pc} (h : l[p]? = some q) : tsum (l.take (p + 1)) = tsum (l.take p) + (plt q).length := by rw [take_succ_of h, tsum_app, tsum_one]
theorem ksum_take_le (l : List Pc) (p : Nat) : ksum (l.take p) ≤ ksum l := by
  have h := ksum_app (l.take p) (l.drop p)
  rw [List.take_append_drop] at h; omega
theorem tsum_take_le (l : List Pc) (p : Nat) : tsum (l.take p) ≤ tsum l := by
  have h := tsum_app (l.take p) (l.drop p)
  rw [List.take_append_drop] at h; omega
theorem ksum_in {l : List Pc} {p : Nat} {q : Pc} (h : l[p]? = some q) : ksum (l.take p) + (pks q).length ≤ ksum l := by
  rw [← ksum_succ h]; exact ksum_take_le _ _
theorem tsum_in {l : List Pc} {p : Nat} {q : Pc} (h : l[p]? = some q) : tsum (l.take p) + (plt q).length ≤ tsum l := by
  rw [← tsum_succ h]; exact tsum_take_le _ _
theorem ksum_mono {l : List Pc} {p r : Nat} (h : p ≤ r) : ksum (l.take p) ≤ ksum (l.take r) := by
  have e : (l.take r).take p = l.take p := by rw [List.take_take, Nat.min_eq_left h]
  rw [← e]; exact ksum_take_le _ _
theorem tsum_mono {l : List Pc} {p r : Nat} (h : p ≤ r) : tsum (l.take p) ≤ tsum (l.take r) := by
  have e : (l.take r).take p = l.take p := by rw [List.take_take, Nat.min_eq_left h]
  rw [← e]; exact tsum_take_le _ _
/-- the doubles of a rounded piece -/
def dbA (q : Pc) : UInt64 := FP.ddiv (FP.l2d (lz (pln q).1)) (FP.l2d (lz (pln q).2.1))
def dbB (q : Pc) : UInt64 := FP.ddiv (FP.l2d (lz (pln q).2.2)) (FP.l2d (lz (pln q).2.1))
/-! the class: tiers by their places -/
def TL : List Nat := [2, 7, 19, 24, 29, 34, 39, 44, 49, 54, 59, 64]
def cap (t : Nat) : Nat := alen (t + 4)
theorem TL_facts : ∀ t, t ∈ TL → shp t = .inr 2 ∧ shp (t + 1) = .inl (.long, cap t) ∧ shp (t + 2) = .inl (.boolean, cap t) ∧ shp (t + 3) = .inl (.long, alen (t + 3)) ∧ shp (t + 4) = .inl (.object "LeaningIndex$Piece", cap t) ∧ 2 ≤ t ∧ t + 4 < 69 ∧ cap t ≤ 600 ∧ alen (t + 3) ≤ 300 ∧ 2 ≤ cap t ∧ (t < 12 → t % 5 = 2) ∧ (12 ≤ t → t % 5 = 4) ∧ (t < 12 ∨ 19 ≤ t) := by decide +kernel
theorem TL_O {M : Im} {t : Nat} (h : t ∈ TL) (hk : K0 ≤ gz M) : iO M t 2 := by
  obtain ⟨f1, f2, f3, f4, f5, f6, f7, -⟩ := TL_facts t h
  exact iO_c hk (by omega) f1
theorem TL_A1 {M : Im} {t : Nat} (h : t ∈ TL) (hk : K0 ≤ gz M) : iA M (t + 1) .long := by
  obtain ⟨f1, f2, f3, f4, f5, f6, f7, -⟩ := TL_facts t h
  exact iA_c hk (by omega) ⟨_, f2⟩
theorem alen_of {a n : Nat} {ty : FieldType} (h : shp a = .inl (ty, n)) : alen a = n := by unfold alen; rw [h]
theorem TL_l1 {t : Nat} (h : t ∈ TL) : alen (t + 1) = cap t := alen_of (TL_facts t h).2.1
theorem TL_l2 {t : Nat} (h : t ∈ TL) : alen (t + 2) = cap t := alen_of (TL_facts t h).2.2.1
theorem TL_l4 {t : Nat} : alen (t + 4) = cap t := rfl
theorem TL_cap {t : Nat} (h : t ∈ TL) : cap t ≤ 600 := (TL_facts t h).2.2.2.2.2.2.2.1
/-- a piece of a tier, its object at a, its keys from st and late keys from sl on -/
def PR (M : Im) (t a st sl : Nat) (q : Pc) : Prop :=
  (gI M a 0 = pki q ∧ gI M a 1 = pma q ∧ gI M a 2 = st ∧ gI M a 3 = (pks q).length ∧ gI M a 4 = sl ∧ gI M a 5 = (plt q).length) ∧
  (gL M a 6 = (pln q).1 ∧ gL M a 7 = (pln q).2.1 ∧ gL M a 8 = (pln q).2.2) ∧ (pki q = 2 → gD M a 9 = dbA q ∧ gD M a 10 = dbB q) ∧
  (∀ i, i < (pks q).length → gL M (t + 1) (st + i) = kf q i ∧ gI M (t + 2) (st + i) = df q i) ∧ (∀ i, i < (plt q).length → gL M (t + 3) (sl + i) = tf q i)
def TR (M : Im) (t : Nat) (l : List Pc) : Prop :=
  gI M t 4 = ksum l ∧ gI M t 5 = tsum l ∧ gI M t 6 = l.length ∧
  ∀ p q, l[p]? = some q → ∃ a, gR M (t + 4) p = some a ∧ 97 ≤ a ∧ a < gz M ∧ PR M t a (ksum (l.take p)) (tsum (l.take p)) q
theorem shp_hi {a : Nat} (h : 97 ≤ a) : shp a = .inr 0 := by
  have e : shpL.length = 97 := by decide +kernel
  unfold shp
  rw [List.getD_eq_getElem?_getD, List.getElem?_eq_none (by omega)]; rfl
theorem iO_hi {M : Im} {a : Nat} (h : 97 ≤ a) (h' : a < gz M) : iO M a 0 := ⟨shp_hi h, h'⟩
theorem PR.frame {M M' : Im} {t a st sl : Nat} {q : Pc} (h : PR M t a st sl q) (hI : ∀ j, gI M' a j = gI M a j) (hL : ∀ j, gL M' a j = gL M a j) (hD : ∀ j, gD M' a j = gD M a j)
    (h1 : ∀ i, i < st + (pks q).length → gL M' (t + 1) i = gL M (t + 1) i) (h2 : ∀ i, i < st + (pks q).length → gI M' (t + 2) i = gI M (t + 2) i) (h3 : ∀ i, i < sl + (plt q).length → gL M' (t + 3) i = gL M (t + 3) i) : PR M' t a st sl q := by
  obtain ⟨⟨a0, a1, a2, a3, a4, a5⟩, ⟨a6, a7, a8⟩, a9, b1, b2⟩ := h
  refine ⟨⟨?_, ?_, ?_, ?_, ?_, ?_⟩, ⟨?_, ?_, ?_⟩, ?_, ?_, ?_⟩
  · rw [hI]; exact a0
  · rw [hI]; exact a1
  · rw [hI]; exact a2
  · rw [hI]; exact a3
  · rw [hI]; exact a4
  · rw [hI]; exact a5
  · rw [hL]; exact a6
  · rw [hL]; exact a7
  · rw [hL]; exact a8
  · rw [hD, hD]; exact a9
  · intro i hi
    rw [h1 _ (by omega), h2 _ (by omega)]
    exact b1 i hi
  · intro i hi
    rw [h3 _ (by omega)]
    exact b2 i hi
/-! reading a tier -/
theorem c_pieceAt {M : Im} {t : Nat} {l : List Pc} {x : Int} {Q : Option Nat → Im → Prop} (hk : K0 ≤ gz M) (ht : t ∈ TL) (h : TR M t l) (hl : l.length ≤ cap t)
    (h1 : ∀ p q a, x = (p : Nat) → l[p]? = some q → 97 ≤ a → a < gz M → gR M (t + 4) p = some a → PR M t a (ksum (l.take p)) (tsum (l.take p)) q → Q (some a) M) (h0 : ¬ (0 ≤ x ∧ x < l.length) → Q none M) : sp_X2_pieceAt t x M Q := by
  obtain ⟨-, -, g, hp⟩ := h
  unfold sp_X2_pieceAt
  rw [g]
  refine ⟨TL_O ht hk, fun h => h0 (by omega), fun hx => ⟨fun h => h0 (by omega), fun h => ⟨by rw [TL_l4]; omega, ?_⟩⟩⟩
  intro r1 hr
  have hlt : x.toNat < l.length := by omega
  obtain ⟨a, ha, ha1, ha2, hP⟩ := hp x.toNat _ (List.getElem?_eq_getElem hlt)
  rw [ha] at hr
  subst hr
  exact h1 x.toNat _ a (by omega) (List.getElem?_eq_getElem hlt) ha1 ha2 ha hP
theorem c_keyOf {M : Im} {t a st sl n : Nat} {q : Pc} {x : Int} {Q : Int → Im → Prop} (hk : K0 ≤ gz M) (ht : t ∈ TL) (ha : 97 ≤ a) (ha' : a < gz M) (hP : PR M t a st sl q) (hn : gI M t 4 = (n : Nat)) (hn1 : st + (pks q).length ≤ n) (hn2 : n ≤ cap t)
    (h1 : ∀ i : Nat, x = (i : Int) → i < (pks q).length → Q (kf q i) M) (h0 : ¬ (0 ≤ x ∧ x < (pks q).length) → Q (-9223372036854775808) M) : sp_X2_keyOf t (some a) x M Q := by
  obtain ⟨⟨a0, a1, a2, a3, a4, a5⟩, -, -, b1, -⟩ := hP
  have hc := TL_cap ht
  unfold sp_X2_keyOf
  refine ⟨TL_O ht hk, a, rfl, iO_hi ha ha', ?_⟩
  rw [a2, a3, hn, TL_l1 ht]
  refine fun i2 hr he => ⟨fun h => h0 (by omega), fun hx => ⟨fun h => h0 (by omega), fun hx2 => ?_⟩⟩
  have e := he (by omega)
  subst e
  refine ⟨fun h => by omega, fun _ => ⟨fun h => by omega, fun _ => ⟨by omega, ?_⟩⟩⟩
  rw [show ((st : Int) + x).toNat = st + x.toNat by omega, (b1 x.toNat (by omega)).1]
  exact h1 x.toNat (by omega) (by omega)
theorem c_lateOf {M : Im} {t a st sl n : Nat} {q : Pc} {x : Int} {Q : Int → Im → Prop} (hk : K0 ≤ gz M) (ht : t ∈ TL) (ha : 97 ≤ a) (ha' : a < gz M) (hP : PR M t a st sl q) (hn : gI M t 5 = (n : Nat)) (hn1 : sl + (plt q).length ≤ n) (hn2 : n ≤ alen (t + 3))
    (h1 : ∀ i : Nat, x = (i : Int) → i < (plt q).length → Q (tf q i) M) (h0 : ¬ (0 ≤ x ∧ x < (plt q).length) → Q (-9223372036854775808) M) : sp_X2_lateOf t (some a) x M Q := by
  obtain ⟨⟨a0, a1, a2, a3, a4, a5⟩, -, -, -, b2⟩ := hP
  have hc := (TL_facts t ht).2.2.2.2.2.2.2.2.1
  unfold sp_X2_lateOf
  refine ⟨TL_O ht hk, a, rfl, iO_hi ha ha', ?_⟩
  rw [a4, a5, hn]
  refine fun i2 hr he => ⟨fun h => h0 (by omega), fun hx => ⟨fun h => h0 (by omega), fun hx2 => ?_⟩⟩
  have e := he (by omega)
  subst e
  refine ⟨fun h => by omega, fun _ => ⟨fun h => by omega, fun _ => ⟨by omega, ?_⟩⟩⟩
  rw [show ((sl : Int) + x).toNat = sl + x.toNat by omega, b2 x.toNat (by omega)]
  exact h1 x.toNat (by omega) (by omega)
theorem c_isDropped {M : Im} {t a st sl n i : Nat} {q : Pc} {Q : Int → Im → Prop} (hk : K0 ≤ gz M) (ht : t ∈ TL) (ha : 97 ≤ a) (ha' : a < gz M) (hP : PR M t a st sl q) (hn : gI M t 4 = (n : Nat)) (hn1 : st + (pks q).length ≤ n) (hn2 : n ≤ cap t) (hi : i < (pks q).length) (hd : df q i = 0 ∨ df q i = 1)
    (h1 : Q (df q i) M) : sp_X2_isDropped t (some a) (i : Int) M Q := by
  obtain ⟨⟨a0, a1, a2, a3, a4, a5⟩, -, -, b1, -⟩ := hP
  have hc := TL_cap ht
  unfold sp_X2_isDropped
  refine ⟨TL_O ht hk, a, rfl, iO_hi ha ha', ?_⟩
  rw [a2, a3, hn, TL_l2 ht]
  refine fun i2 hr he => ⟨fun h => by omega, fun _ => ⟨fun h => by omega, fun _ => ?_⟩⟩
  have e := he (by omega)
  subst e
  refine ⟨fun h => by omega, fun _ => ⟨fun h => by omega, fun _ => ⟨by omega, ?_⟩⟩⟩
  rw [show ((st : Int) + i).toNat = st + i by omega, (b1 i hi).2]
  rcases hd with hd | hd
  · rw [hd] at h1 ⊢
    exact ⟨fun _ => ⟨Or.inl rfl, h1⟩, fun h => absurd rfl h⟩
  · rw [hd] at h1 ⊢
    exact ⟨fun h => by omega, fun _ => ⟨Or.inr rfl, h1⟩⟩
/-- how many of the first keys are dropped -/
def dsum (q : Pc) : Nat → Int
  | 0 => 0
  | i + 1 => dsum q i + df q i
theorem dsum_bd {q : Pc} (hd : ∀ i, i < (pks q).length → df q i = 0 ∨ df q i = 1) : ∀ i, i ≤ (pks q).length → 0 ≤ dsum q i ∧ dsum q i ≤ i
  | 0, _ => by unfold dsum; omega
  | i + 1, h => by
    have h1 := dsum_bd hd i (by omega)
    have h2 := hd i (by omega)
    unfold dsum; omega
theorem c_countDropped_4 {M : Im} {t a st sl n : Nat} {q : Pc} {Q K : Int → Im → Prop} (hk : K0 ≤ gz M) (ht : t ∈ TL) (ha : 97 ≤ a) (ha' : a < gz M) (hP : PR M t a st sl q) (hn : gI M t 4 = (n : Nat)) (hn1 : st + (pks q).length ≤ n) (hn2 : n ≤ cap t) (hd : ∀ i, i < (pks q).length → df q i = 0 ∨ df q i = 1)
    (hK : K (dsum q (pks q).length) M) : ∀ (d i : Nat), i + d = (pks q).length → sp_X2_countDropped_4 (d + 1) t (some a) (dsum q i) i M Q K
  | 0, i, h => by
    obtain rfl : i = (pks q).length := by omega
    unfold sp_X2_countDropped_4
    refine ⟨a, rfl, iO_hi ha ha', ?_⟩
    rw [hP.1.2.2.2.1]
    exact ⟨fun _ => hK, fun h => by omega⟩
  | d + 1, i, h => by
    have hc := TL_cap ht
    have hb := dsum_bd hd i (by omega)
    have hi := hd i (by omega)
    unfold sp_X2_countDropped_4
    refine ⟨a, rfl, iO_hi ha ha', ?_⟩
    rw [hP.1.2.2.2.1]
    refine ⟨fun h => by omega, fun _ => ?_⟩
    refine c_isDropped hk ht ha ha' hP hn hn1 hn2 (by omega) hi ?_
    have ih := c_countDropped_4 (Q := Q) (K := K) hk ht ha ha' hP hn hn1 hn2 hd hK d (i + 1) (by omega)
    have e : dsum q (i + 1) = dsum q i + df q i := rfl
    refine ⟨fun h0 => ?_, fun h1 => ?_⟩
    · unfold sp_X2_countDropped_27
      refine ⟨by omega, ?_⟩
      intro i4 h4
      refine ⟨by omega, ?_⟩
      rintro i5 rfl
      obtain rfl : i4 = dsum q (i + 1) := by omega
      exact ih
    · unfold sp_X2_countDropped_27
      refine ⟨by omega, ?_⟩
      intro i4 h4
      refine ⟨by omega, ?_⟩
      rintro i5 rfl
      obtain rfl : i4 = dsum q (i + 1) := by omega
      exact ih
theorem c_countDropped {M : Im} {t a st sl n : Nat} {q : Pc} {Q : Int → Im → Prop} (hk : K0 ≤ gz M) (ht : t ∈ TL) (ha : 97 ≤ a) (ha' : a < gz M) (hP : PR M t a st sl q) (hn : gI M t 4 = (n : Nat)) (hn1 : st + (pks q).length ≤ n) (hn2 : n ≤ cap t) (hd : ∀ i, i < (pks q).length → df q i = 0 ∨ df q i = 1)
    (hQ : Q (dsum q (pks q).length) M) : sp_X2_countDropped t (some a) M Q := by
  unfold sp_X2_countDropped
  exact ⟨TL_O ht hk, (pks q).length + 1, c_countDropped_4 (Q := Q) (K := fun x2 M => Q x2 M) hk ht ha ha' hP hn hn1 hn2 hd hQ (pks q).length 0 (by omega)⟩
