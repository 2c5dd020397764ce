/-! ===== the state of the class and of the model ===== -/
def CI (M : Im) (r : List Int) (E : Int) (l : List Pc) (Y : List (List Pc)) (mk_ an : Int) (w : List Int) (lk : Nat) : Prop :=
  K0 ≤ gz M ∧ Pool M ∧ (∃ t t', CT M t t' ∧ TR M t l) ∧ Lay M Y ∧ (gI M 0 1 = r.length ∧ gI M 0 2 = E ∧ gI M 0 7 = (GT l).length ∧ gI M 0 8 = mk_ ∧ gI M 0 9 = an) ∧ (∀ i v, r[i]? = some v → gL M 1 i = v) ∧ TW M 13 w ∧ gI M 13 2 = lk
def MI (M : Im) (r : List Int) (E : Int) (l : List Pc) (Y : List (List Pc)) (mk_ an : Int) (w : List Int) (lk : Nat) : Prop :=
  (gI M 69 1 = r.length ∧ gI M 69 2 = E ∧ gI M 69 9 = Y.length ∧ gI M 69 23 = (if l = [] then 0 else 1) ∧ gI M 69 24 = mk_ ∧ gI M 69 25 = an ∧ gI M 69 40 = w.length ∧ gI M 69 42 = lk ∧ gI M 69 46 = (if w = [] then 0 else 1)) ∧
  (∀ i v, r[i]? = some v → gL M 70 i = v) ∧ MA M (l :: Y).flatten ∧ MLv M (l :: Y) ∧ (∀ j v, w[j]? = some v → gI M 96 j = v)
def WF (n : Nat) (r : List Int) (E : Int) (l : List Pc) (Y : List (List Pc)) (mk_ an : Int) (w : List Int) (lk : Nat) : Prop :=
  n ≤ 512 ∧ (r.length ≤ 300 ∧ rising r ∧ ∀ x, x ∈ r → inR x) ∧ (0 ≤ E ∧ E ≤ 40) ∧ WL l ∧ (∀ q, q ∈ l → (plt q).length ≤ 15) ∧ (GT l).length ≤ 300 ∧ 2 * (ksum l + tsum l) ≤ 300 + n + (GT l).length ∧ (∃ E', (0 ≤ E' ∧ E' ≤ 40) ∧ Y = lys E' 10 l) ∧ (0 ≤ mk_ ∧ mk_ ≤ 1000 * n) ∧ (0 ≤ an ∧ an ≤ n) ∧ w.length ≤ 34 ∧ lk ≤ 30000
/-- all is as it must be, after n calls -/
def Good (n : Nat) (M : Im) : Prop := ∃ r E l Y mk_ an w lk, CI M r E l Y mk_ an w lk ∧ MI M r E l Y mk_ an w lk ∧ WF n r E l Y mk_ an w lk
theorem WF.next {n : Nat} {r : List Int} {E : Int} {l : List Pc} {Y : List (List Pc)} {mk_ an : Int} {w : List Int} {lk : Nat} (h : WF n r E l Y mk_ an w lk) (hn : n < 512) : WF (n + 1) r E l Y mk_ an w lk := by
  obtain ⟨h0, h1, h2, h3, h4, h5, h6, h7, h8, h9, h10⟩ := h
  exact ⟨by omega, h1, h2, h3, h4, h5, by omega, h7, by omega, by omega, h10⟩
theorem CI.ag {S : Nat → Prop} {M M' : Im} {r : List Int} {E : Int} {l : List Pc} {Y : List (List Pc)} {mk_ an : Int} {w : List Int} {lk : Nat} (h : CI M r E l Y mk_ an w lk) (g : Ag S M M') (hS : ∀ b, S b → (15 ≤ b ∧ b ≤ 18) ∨ (69 ≤ b ∧ b < 97)) : CI M' r E l Y mk_ an w lk := by
  obtain ⟨h0, h1, ⟨t, t', h2, h3⟩, h4, h5, h6, h7, h8⟩ := h
  have o : ∀ b, b < 15 → ¬ S b := fun b hb w => by have := hS b w; omega
  have o2 : ∀ b, 19 ≤ b → b < 69 → ¬ S b := fun b hb hb2 w => by have := hS b w; omega
  have o3 : ∀ b, 97 ≤ b → ¬ S b := fun b hb w => by have := hS b w; omega
  have oT : ∀ u, u ∈ TL → ∀ b, u ≤ b → b ≤ u + 4 → ¬ S b := fun u hu b hb1 hb2 w => by
    have f := TL_facts u hu
    obtain ⟨-, -, -, -, -, f1, f2, -, -, -, f3, f4, f5⟩ := f
    have := hS b w; omega
  obtain ⟨ht, ht', -⟩ := h2.TL
  refine ⟨g.k0 h0, h1.ag g (fun u hu => oT u hu (u + 4) (by omega) (by omega)), ⟨t, t', ⟨h2.1, by rw [g.R (o 0 (by omega))]; exact h2.2.1, by rw [g.R (o 0 (by omega))]; exact h2.2.2⟩, h3.ag g (oT t ht) o3⟩, ?_, ?_, fun i v hv => by rw [g.L (o 1 (by omega))]; exact h6 i v hv, ?_, by rw [g.I (o 13 (by omega))]; exact h8⟩
  · refine ⟨by rw [g.I (o 0 (by omega))]; exact h4.1, h4.2.1, fun i y hy => ?_⟩
    have := (List.getElem?_eq_some_iff.mp hy).1
    have hl := h4.2.1
    exact (h4.2.2 i y hy).ag g (oT _ (UT_in (by omega))) o3
  · simp only [g.I (o 0 (by omega))]; exact h5
  · exact ⟨by rw [g.I (o 13 (by omega))]; exact h7.1, fun j v hv => by rw [g.I (o 14 (by omega))]; exact h7.2 j v hv⟩
theorem MI.agL {S : Nat → Prop} {M M' : Im} {r : List Int} {E : Int} {l : List Pc} {Y : List (List Pc)} {mk_ an : Int} {w : List Int} {lk : Nat} (h : MI M r E l Y mk_ an w lk) (g : AgL S M M') (hS : ∀ b, S b → b < 69 ∨ 97 ≤ b) : MI M' r E l Y mk_ an w lk := by
  obtain ⟨h1, h2, h3, h4, h5⟩ := h
  have o : ∀ b, 69 ≤ b → b < 97 → ¬ S b := fun b hb hb2 w => by have := hS b w; omega
  refine ⟨by simp only [g.I (o 69 (by omega) (by omega))]; exact h1, fun i v hv => by rw [g.L (o 70 (by omega) (by omega))]; exact h2 i v hv, fun p q hq => ?_, fun i y hy => ?_, fun j v hv => by rw [g.I (o 96 (by omega) (by omega))]; exact h5 j v hv⟩
  · exact (h3 p q hq).frame (fun b h1 h2 => g.I (o b (by omega) (by omega)) p) (fun b h1 h2 => g.L (o b (by omega) (by omega)) p) (fun i _ => ⟨g.L (o 82 (by omega) (by omega)) _, g.I (o 84 (by omega) (by omega)) _⟩) (fun i _ => g.L (o 83 (by omega) (by omega)) _)
  · rw [g.I (o 72 (by omega) (by omega)), g.I (o 73 (by omega) (by omega))]; exact h4 i y hy
theorem MI.ag {S : Nat → Prop} {M M' : Im} {r : List Int} {E : Int} {l : List Pc} {Y : List (List Pc)} {mk_ an : Int} {w : List Int} {lk : Nat} (h : MI M r E l Y mk_ an w lk) (g : Ag S M M') (hS : ∀ b, S b → b < 69 ∨ 97 ≤ b) : MI M' r E l Y mk_ an w lk := h.agL g.toL hS
/-- the model's own scratch -/
def MS (b : Nat) : Prop := b = 69 ∨ b = 71 ∨ (85 ≤ b ∧ b ≤ 95)
theorem MI.keep {M M' : Im} {r : List Int} {E : Int} {l : List Pc} {Y : List (List Pc)} {mk_ an : Int} {w : List Int} {lk : Nat} (h : MI M r E l Y mk_ an w lk) (g : Ag MS M M') (h69 : ∀ j, j = 1 ∨ j = 2 ∨ j = 9 ∨ j = 23 ∨ j = 24 ∨ j = 25 ∨ j = 40 ∨ j = 42 ∨ j = 46 → gI M' 69 j = gI M 69 j) : MI M' r E l Y mk_ an w lk := by
  obtain ⟨h1, h2, h3, h4, h5⟩ := h
  have o : ∀ b, b ≠ 69 → b ≠ 71 → (b < 85 ∨ 95 < b) → ¬ MS b := fun b hb hb2 hb3 w => by unfold MS at w; omega
  refine ⟨?_, fun i v hv => by rw [g.L (o 70 (by omega) (by omega) (by omega))]; exact h2 i v hv, h3.ag g (fun b h1 h2 => o b (by omega) (by omega) (by omega)), h4.ag g (o 72 (by omega) (by omega) (by omega)) (o 73 (by omega) (by omega) (by omega)), fun j v hv => by rw [g.I (o 96 (by omega) (by omega) (by omega))]; exact h5 j v hv⟩
  rw [h69 1 (by omega), h69 2 (by omega), h69 9 (by omega), h69 23 (by omega), h69 24 (by omega), h69 25 (by omega), h69 40 (by omega), h69 42 (by omega), h69 46 (by omega)]
  exact h1
theorem Good.same {n : Nat} {M : Im} {r : List Int} {E : Int} {l : List Pc} {Y : List (List Pc)} {mk_ an : Int} {w : List Int} {lk : Nat} (hc : CI M r E l Y mk_ an w lk) (hm : MI M r E l Y mk_ an w lk) (hw : WF n r E l Y mk_ an w lk) (hn : n < 512) : Good (n + 1) M := ⟨r, E, l, Y, mk_, an, w, lk, hc, hm, hw.next hn⟩
/-- what well-formed means for finds and rows -/
theorem WF.facts {n : Nat} {r : List Int} {E : Int} {l : List Pc} {Y : List (List Pc)} {mk_ an : Int} {w : List Int} {lk : Nat} (h : WF n r E l Y mk_ an w lk) :
    l.length ≤ 556 ∧ ksum l ≤ 556 ∧ tsum l ≤ 300 ∧ ksum l + tsum l ≤ 556 ∧ (∀ q, q ∈ l → pok q ∧ pmo q) ∧ okF (fk l) l.length ∧ LvB (l :: Y) ∧ LayB Y ∧ (∀ (m : Nat) (y y' : List Pc), (l :: Y)[m]? = some y → (l :: Y)[m + 1]? = some y' → ksum y' = y.length) ∧ Y.length ≤ 10 := by
  obtain ⟨h0, h1, h2, h3, h4, h5, h6, ⟨E', h7, rfl⟩, h8, h9, h10⟩ := h
  have hok : ∀ q, q ∈ l → pok q ∧ pmo q := fun q hq => ⟨(h3.1 q hq).1, (h3.1 q hq).2.1⟩
  have hl := len_le_ksum (fun q hq => (hok q hq).1)
  have hf := okF_fk h3
  have hts : tsum l ≤ (GT l).length := by
    clear h0 h1 h2 h3 h4 h5 h6 h7 h8 h9 h10 hok hl hf
    induction l with
    | nil => exact Nat.le_refl _
    | cons q l ih =>
      rw [tsum_cons, GT_cons, List.length_append, mq_length]; omega
  obtain ⟨a, b, c⟩ := LvB_of (E := E') h7 hf (by omega) (by omega) hok
  exact ⟨by omega, by omega, by omega, by omega, hok, hf, a, b, c, lys_len _ _ _⟩
theorem WF.find {n : Nat} {r : List Int} {E : Int} {l : List Pc} {Y : List (List Pc)} {mk_ an : Int} {w : List Int} {lk : Nat} (h : WF n r E l Y mk_ an w lk) (hn : l ≠ []) (k : Int) :
    wok k Y l.length Y.length 0 ∧ loc (fk l) l.length k (fpc k Y) ∧ fpc k Y < l.length := by
  have hf := h.facts
  obtain ⟨h0, h1, h2, h3, h4, h5, h6, ⟨E', h7, rfl⟩, h8, h9, h10⟩ := h
  exact find_loc h7 (okF_fk h3) (by omega) hn
/-! small methods -/
theorem c_isKey {M : Im} {x : Int} {Q : Int → Im → Prop} (h1 : inR x → Q 1 M) (h0 : ¬ inR x → Q 0 M) : sp_X4_isKey x M Q := by
  unfold inR at h1 h0
  unfold sp_X4_isKey
  exact ⟨fun h => ⟨Or.inl rfl, h0 (by omega)⟩, fun h => ⟨fun h' => ⟨Or.inl rfl, h0 (by omega)⟩, fun h' => ⟨Or.inr rfl, h1 ⟨h, h'⟩⟩⟩⟩
theorem d_isKey {M : Im} {x : Int} {Q : Int → Im → Prop} (hk : K0 ≤ gz M) (h1 : inR x → Q 1 M) (h0 : ¬ inR x → Q 0 M) : sp_X5_isKey 69 x M Q := by
  unfold inR at h1 h0
  unfold sp_X5_isKey
  exact ⟨iO_c hk (by decide) rfl, fun h => ⟨Or.inl rfl, h0 (by omega)⟩, fun h => ⟨fun h' => ⟨Or.inl rfl, h0 (by omega)⟩, fun h' => ⟨Or.inr rfl, h1 ⟨h, h'⟩⟩⟩⟩
theorem c_hasIndex {M : Im} {t t' : Nat} {l : List Pc} {Q : Int → Im → Prop} (hk : K0 ≤ gz M) (hC : CT M t t') (hT : TR M t l) (h1 : l ≠ [] → Q 1 M) (h0 : l = [] → Q 0 M) : sp_X4_hasIndex 0 M Q := by
  unfold sp_X4_hasIndex
  refine ⟨iO_c hk (by decide) rfl, ?_⟩
  rintro r1 rfl
  refine ⟨t, hC.2.1, TL_O hC.TL.1 hk, ?_⟩
  rw [hT.2.2.1]
  refine ⟨fun h => ⟨Or.inl rfl, h0 (List.eq_nil_of_length_eq_zero (by omega))⟩, fun h => ⟨Or.inr rfl, h1 fun e => ?_⟩⟩
  subst e; simp at h
theorem c_tierOf {M : Im} {r : List Int} {E : Int} {l : List Pc} {Y : List (List Pc)} {mk_ an : Int} {w : List Int} {lk n0 : Nat} {x : Int} {Q : Option Nat → Im → Prop} (hc : CI M r E l Y mk_ an w lk) (hw : WF n0 r E l Y mk_ an w lk)
    (h1 : ∀ (n : Nat) (y : List Pc) (t : Nat), x = (n : Int) - 1 → l ≠ [] → (l :: Y)[n]? = some y → t ∈ TL → TR M t y → y.length ≤ cap t → ksum y ≤ cap t → Q (some t) M) (h0 : (l = [] ∨ x < -1 ∨ (Y.length : Int) ≤ x) → Q none M) : sp_X4_tierOf 0 x M Q := by
  obtain ⟨hk, -, ⟨t, t', hC, hT⟩, hL, -⟩ := hc
  obtain ⟨f1, f2, f3, f4, f5, f6, f7, f8, f9, f10⟩ := hw.facts
  obtain ⟨ht, ht', -, -, -, hcap, -⟩ := hC.TL
  unfold sp_X4_tierOf
  refine ⟨iO_c hk (by decide) rfl, c_hasIndex hk hC hT (fun hn => ⟨fun h => by omega, fun _ => ⟨fun h => h0 (by omega), fun hx => ?_⟩⟩) (fun hn => ⟨fun _ => h0 (Or.inl hn), fun h => absurd rfl h⟩)⟩
  rw [hL.1]
  refine ⟨fun hx2 => ⟨fun hx3 => ⟨?_, ?_⟩, fun hx3 => ?_⟩, fun hx2 => h0 (by omega)⟩
  · have : alen 12 = 10 := rfl
    omega
  · rw [UT_z (by omega)]
    rintro r3 rfl
    have hy := lyAt_get (Y := Y) (n := x.toNat) (by omega)
    obtain ⟨b1, b2, b3⟩ := f8 _ _ hy
    exact h1 (x.toNat + 1) _ _ (by omega) hn (by rw [List.getElem?_cons_succ]; exact hy) (UT_in (by omega)) (hL.2.2 _ _ hy) b1 b2
  · rintro r4 rfl
    rw [hC.2.1]
    exact h1 0 l t (by omega) hn rfl ht hT (by omega) (by omega)
theorem d_pieceOf {M : Im} {r : List Int} {E : Int} {l : List Pc} {Y : List (List Pc)} {mk_ an : Int} {w : List Int} {lk n0 : Nat} {x z : Int} {Q : Int → Im → Prop} (hk : K0 ≤ gz M) (hm : MI M r E l Y mk_ an w lk) (hw : WF n0 r E l Y mk_ an w lk)
    (h1 : ∀ (n : Nat) (y : List Pc) (p : Nat) (q : Pc) (g fr : Nat), x = (n : Int) - 1 → z = (p : Int) → l ≠ [] → (l :: Y)[n]? = some y → y[p]? = some q → MP M g fr q → g < 10000 → fr + (pks q).length ≤ 12000 → pok q → Q (g : Int) M) (h0 : (l = [] ∨ x < -1 ∨ (Y.length : Int) ≤ x ∨ ∃ (n : Nat) (y : List Pc), x = (n : Int) - 1 ∧ (l :: Y)[n]? = some y ∧ (z < 0 ∨ (y.length : Int) ≤ z)) → Q (-1) M) : sp_X5_pieceOf 69 x z M Q := by
  have w72 : alen 72 = 20 := rfl
  have w73 : alen 73 = 20 := rfl
  obtain ⟨⟨-, -, m9, m23, -⟩, -, hA, hV, -⟩ := hm
  obtain ⟨f1, f2, f3, f4, f5, f6, f7, f8, f9, f10⟩ := hw.facts
  unfold sp_X5_pieceOf
  rw [m23, m9]
  refine ⟨iO_c hk (by decide) rfl, fun h => ?_, fun h => ?_⟩
  · by_cases hn : l = []
    · exact h0 (Or.inl hn)
    · rw [if_neg hn] at h; omega
  · have hn : l ≠ [] := fun e => h (by rw [if_pos e])
    refine ⟨fun hx => h0 (by omega), fun hx => ⟨fun hx2 => h0 (by omega), fun hx2 => ?_⟩⟩
    obtain ⟨n, hnx⟩ : ∃ n : Nat, x = (n : Int) - 1 := ⟨(x + 1).toNat, by omega⟩
    have hy := lyAt_get (Y := l :: Y) (n := n) (by simp; omega)
    obtain ⟨v1, v2⟩ := hV _ _ hy
    rw [flat_take_succ hy, List.length_append] at v2
    rw [show (x + 1).toNat = n by omega, v1, v2, w72, w73]
    refine ⟨fun hz => h0 (Or.inr (Or.inr (Or.inr ⟨n, _, hnx, hy, Or.inl hz⟩))), fun hz => ?_⟩
    have fl := f7.2.1
    have e : (l :: Y).flatten = ((l :: Y).take (n + 1)).flatten ++ ((l :: Y).drop (n + 1)).flatten := by rw [← List.flatten_append, List.take_append_drop]
    have el := congrArg List.length e
    rw [flat_take_succ hy, List.length_append, List.length_append] at el
    refine ⟨by omega, by omega, by omega, by omega, by omega, by omega, fun hz2 => ⟨by omega, by omega, by omega, by omega, ?_⟩, fun hz2 => h0 (Or.inr (Or.inr (Or.inr ⟨n, _, hnx, hy, Or.inr (by omega)⟩)))⟩
    have hp : z.toNat < (lyAt (l :: Y) n).length := by omega
    have hq := pcAt_get hp
    have hP := hA _ _ (flat_get hy hq)
    have hg := (List.getElem?_eq_some_iff.mp (flat_get hy hq)).1
    have kin := ksum_in (flat_get hy hq)
    have fk := f7.2.2.1
    have := h1 n _ z.toNat _ _ _ hnx (by omega) hn hy hq hP (by omega) (by omega) (f7.2.2.2 _ _ hy _ (List.mem_of_getElem? hq)).1
    rw [show ((((l :: Y).take n).flatten.length : Nat) : Int) + z = (((((l :: Y).take n).flatten.length + z.toNat : Nat)) : Int) by omega]
    exact this
