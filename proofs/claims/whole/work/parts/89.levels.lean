/-! ===== the levels, and where a way through them leads ===== -/
/-- what a made piece is -/
theorem mkGo_get {m E : Int} (hm : 0 ≤ m) : ∀ (d : Nat) (f : Nat → Int) (n p : Nat) (q : Pc), n ≤ d → (mkGo m E d f n)[p]? = some q →
    ∃ n' : Nat, q = pcOf m E (fun i => f (ksum ((mkGo m E d f n).take p) + i)) n' ∧ 1 ≤ n' ∧ ksum ((mkGo m E d f n).take p) + n' ≤ n ∧ fitS (allF m (fun i => f (ksum ((mkGo m E d f n).take p) + i)) (n' - 1))
  | 0, f, n, p, q, hd, h => by unfold mkGo at h; simp at h
  | d + 1, f, n, p, q, hd, h => by
    unfold mkGo at h ⊢
    by_cases hn : n = 0
    · rw [if_pos hn] at h; simp at h
    · rw [if_neg hn] at h ⊢
      have h1 := spanLen_pos (m := m) (f := f) (n := n) (by omega)
      have h2 := spanLen_fit m f n
      generalize spanLen m f n = s at *
      cases p with
      | zero =>
        simp only [List.getElem?_cons_zero, Option.some.injEq] at h
        subst h
        rw [List.take_zero, ksum_nil]
        have e : (fun i => f (0 + i)) = f := by funext i; rw [Nat.zero_add]
        rw [e]
        exact ⟨s, rfl, h1.1, by omega, h2⟩
      | succ p =>
        rw [List.getElem?_cons_succ] at h
        obtain ⟨n', g1, g2, g3, g4⟩ := mkGo_get hm d (fun i => f (s + i)) (n - s) p q (by omega) h
        rw [List.take_succ_cons, ksum_cons, len_pcOf]
        have e : (fun i => f (s + (ksum ((mkGo m E d (fun i => f (s + i)) (n - s)).take p) + i))) = fun i => f (s + ksum ((mkGo m E d (fun i => f (s + i)) (n - s)).take p) + i) := by funext i; rw [Nat.add_assoc]
        rw [e] at g1 g4
        exact ⟨n', g1, g2, by omega, g4⟩
theorem okF.from {f : Nat → Int} {n s n' : Nat} (h : okF f n) (hs : s + n' ≤ n) : okF (fun i => f (s + i)) n' := (h.shift (s := s)).le (by omega)
theorem pma_pcOf (m E : Int) (f : Nat → Int) (n : Nat) : pma (pcOf m E f n) = E := rfl
theorem lys_len (E : Int) : ∀ (d : Nat) (l : List Pc), (lys E d l).length ≤ d
  | 0, l => Nat.le_refl _
  | d + 1, l => by
    unfold lys
    split
    · have := lys_len E d (mk E E (fk l) l.length)
      rw [List.length_cons]; omega
    · exact Nat.zero_le _
theorem lys_get {E : Int} : ∀ (d : Nat) (l : List Pc) (m : Nat) (y y' : List Pc), (l :: lys E d l)[m]? = some y → (l :: lys E d l)[m + 1]? = some y' → y' = mk E E (fk y) y.length ∧ 1 < y.length
  | 0, l, m, y, y', h, h' => by unfold lys at h'; simp at h'
  | d + 1, l, m, y, y', h, h' => by
    unfold lys at h h'
    by_cases hl : 1 < l.length
    · rw [if_pos hl] at h h'
      cases m with
      | zero =>
        simp only [List.getElem?_cons_zero, Option.some.injEq, List.getElem?_cons_succ] at h h'
        subst h
        exact ⟨h'.symm, hl⟩
      | succ m =>
        rw [List.getElem?_cons_succ] at h h'
        exact lys_get d _ m y y' h h'
    · rw [if_neg hl] at h'
      simp at h'
theorem lys_okF {E : Int} : ∀ (d : Nat) (l : List Pc) (m : Nat) (y : List Pc), okF (fk l) l.length → (l :: lys E d l)[m]? = some y → okF (fk y) y.length
  | d, l, 0, y, hf, h => by
    simp only [List.getElem?_cons_zero, Option.some.injEq] at h
    subst h; exact hf
  | 0, l, m + 1, y, hf, h => by unfold lys at h; simp at h
  | d + 1, l, m + 1, y, hf, h => by
    unfold lys at h
    rw [List.getElem?_cons_succ] at h
    by_cases hl : 1 < l.length
    · rw [if_pos hl] at h
      exact lys_okF d _ m y (okF_fk_mk hf) h
    · rw [if_neg hl] at h; simp at h
theorem lys_last {E : Int} (hE : 0 ≤ E) : ∀ (d : Nat) (l : List Pc), l.length ≤ 2 ^ d → okF (fk l) l.length → (lyAt (l :: lys E d l) (lys E d l).length).length ≤ 1
  | 0, l, hl, hf => by unfold lys lyAt; simpa using hl
  | d + 1, l, hl, hf => by
    unfold lys
    by_cases h : 1 < l.length
    · rw [if_pos h]
      have hh : 2 * (mk E E (fk l) l.length).length ≤ l.length + 1 := len_mkGo_half hE l.length (fk l) l.length hf
      have h2 : 2 ^ (d + 1) = 2 * 2 ^ d := by rw [Nat.pow_succ]; omega
      have := lys_last hE d (mk E E (fk l) l.length) (by omega) (okF_fk_mk hf)
      rw [List.length_cons]
      have e : lyAt (l :: mk E E (fk l) l.length :: lys E d (mk E E (fk l) l.length)) ((lys E d (mk E E (fk l) l.length)).length + 1) = lyAt (mk E E (fk l) l.length :: lys E d (mk E E (fk l) l.length)) (lys E d (mk E E (fk l) l.length)).length := by
        unfold lyAt; rw [List.getElem?_cons_succ]
      rw [e]; exact this
    · rw [if_neg h]
      show l.length ≤ 1
      omega
theorem lyAt_get {Y : List (List Pc)} {n : Nat} (h : n < Y.length) : Y[n]? = some (lyAt Y n) := by unfold lyAt; rw [List.getElem?_eq_getElem h]; rfl
theorem pcAt_get {l : List Pc} {p : Nat} (h : p < l.length) : l[p]? = some (pcAt l p) := by unfold pcAt; rw [List.getElem?_eq_getElem h]; rfl
theorem fk_at {l : List Pc} {p : Nat} {q : Pc} (h : l[p]? = some q) : fk l p = kf q 0 := by unfold fk; rw [h]
/-- the way leads to the right piece -/
theorem walk_loc {k E : Int} {l : List Pc} (hE : 0 ≤ E ∧ E ≤ 40) (hf : okF (fk l) l.length) (hl : l.length ≤ 600) :
    ∀ n p, n ≤ (lys E 10 l).length → p < (lyAt (l :: lys E 10 l) n).length → loc (fk (lyAt (l :: lys E 10 l) n)) (lyAt (l :: lys E 10 l) n).length k p →
      wok k (lys E 10 l) l.length n p ∧ loc (fk l) l.length k (walk k (lys E 10 l) n p).2.2 ∧ (walk k (lys E 10 l) n p).2.2 < l.length
  | 0, p, hn, hp, hloc => ⟨hp, hloc, hp⟩
  | n + 1, p, hn, hp, hloc => by
    have hy := lyAt_get (Y := l :: lys E 10 l) (n := n) (by simp; omega)
    have hy' := lyAt_get (Y := l :: lys E 10 l) (n := n + 1) (by simp; omega)
    obtain ⟨emk, hy1⟩ := lys_get 10 l n _ _ hy hy'
    have hfy := lys_okF 10 l n _ hf hy
    have hfy' := lys_okF 10 l (n + 1) _ hf hy'
    have hly : lyAt (l :: lys E 10 l) (n + 1) = lyAt (lys E 10 l) n := by unfold lyAt; rw [List.getElem?_cons_succ]
    have hlen : (lyAt (l :: lys E 10 l) n).length ≤ 600 := by
      have : ∀ (m : Nat) (y : List Pc), (l :: lys E 10 l)[m]? = some y → y.length ≤ 600 := by
        intro m
        induction m with
        | zero =>
          intro y h
          simp only [List.getElem?_cons_zero, Option.some.injEq] at h
          subst h; exact hl
        | succ m ih =>
          intro y h
          have hm := (List.getElem?_eq_some_iff.mp h).1
          have h0 := lyAt_get (Y := l :: lys E 10 l) (n := m) (by omega)
          obtain ⟨e, -⟩ := lys_get 10 l m _ _ h0 h
          have := ih _ h0
          have h3 : (mk E E (fk (lyAt (l :: lys E 10 l) m)) (lyAt (l :: lys E 10 l) m).length).length ≤ (lyAt (l :: lys E 10 l) m).length := len_mkGo _ _ _ _ _
          rw [e]; omega
      exact this n _ hy
    rw [hly] at hy' emk hfy' hp hloc
    have hq := pcAt_get hp
    generalize hyy : lyAt (l :: lys E 10 l) n = y at *
    generalize hzz : lyAt (lys E 10 l) n = z at *
    have hq2 : (mk E E (fk y) y.length)[p]? = some (pcAt z p) := by rw [← emk]; exact hq
    obtain ⟨n', g1, g2, g3, g4⟩ := mkGo_get hE.1 _ _ _ _ _ (Nat.le_refl _) hq2
    have ez : mkGo E E y.length (fk y) y.length = z := emk.symm
    rw [ez] at g1 g3 g4
    generalize hoff : ksum (z.take p) = off at *
    have hfo := hfy.from g3
    have okq : pok (pcAt z p) := by rw [g1]; exact pok_pcOf hfo g2 (by omega) hE
    have pmq : pmo (pcAt z p) := by rw [g1]; exact hE
    have hkf : ∀ i, i < n' → kf (pcAt z p) i = fk y (off + i) := fun i hi => by rw [g1]; exact kf_pcOf hi
    have hln : (pks (pcAt z p)).length = n' := by rw [g1]; exact len_pcOf _ _ _ _
    have hld := loc_dsc (k := k) okq pmq (fun i hi hle => by
      rw [hln] at hi
      rw [hkf i hi] at hle
      have := dg_made (E := E) (k := k) hfo g2 hE.1 g4 hi hle
      rw [← g1] at this
      have e : pma (pcAt z p) = E := by rw [g1]; rfl
      rw [e]; exact this)
    have hdl := dsc_lt (k := k) okq pmq
    rw [hln] at hld hdl
    have hfz : fk z p = fk y off := by rw [fk_at hq, hkf 0 (by omega), Nat.add_zero]
    have hp2 : off + (dsc (pcAt z p) k).1 < y.length := by omega
    have ksz : ksum z = y.length := by rw [emk]; exact ksum_mkGo _ _ _ _ _ (Nat.le_refl _)
    have hloc2 : loc (fk y) y.length k (off + (dsc (pcAt z p) k).1) := by
      obtain ⟨a, b⟩ := hld
      refine ⟨?_, fun j h1 h2 => ?_⟩
      · rcases Nat.eq_zero_or_pos (dsc (pcAt z p) k).1 with w | w
        · rw [w, Nat.add_zero]
          rcases hloc.1 with h0 | h0
          · left
            rw [← hoff, h0, List.take_zero, ksum_nil]
          · right
            rw [← hfz]; exact h0
        · right
          rcases a with a | a
          · omega
          · rw [hkf _ hdl] at a; exact a
      · rcases Nat.lt_or_ge j (off + n') with w | w
        · have := b (j - off) (by omega) (by omega)
          rw [hkf _ (by omega), show off + (j - off) = j by omega] at this
          exact this
        · -- the next piece
          have hp1 : p + 1 < z.length := by
            refine Nat.not_le.mp fun hle => ?_
            have : ksum (z.take (p + 1)) = ksum z := by rw [List.take_of_length_le hle]
            rw [ksum_succ hq, hoff, hln] at this
            omega
          have hq1 := pcAt_get hp1
          have hq3 : (mk E E (fk y) y.length)[p + 1]? = some (pcAt z (p + 1)) := by rw [← emk]; exact hq1
          obtain ⟨n2, e1, e2, e3, e4⟩ := mkGo_get hE.1 _ _ _ _ _ (Nat.le_refl _) hq3
          rw [ez, ksum_succ hq, hoff, hln] at e1 e3
          have hk1 : fk z (p + 1) = fk y (off + n') := by
            rw [fk_at hq1, e1, kf_pcOf (by omega), Nat.add_zero]
          have := hloc.2 (p + 1) (by omega) hp1
          rw [hk1] at this
          rcases Nat.eq_or_lt_of_le w with w' | w'
          · rw [← w']; exact this
          · have := hfy.2 (off + n') j w' h2
            omega
    have ih := walk_loc hE hf hl n (off + (dsc (pcAt z p) k).1) (by omega) (by rw [hyy]; exact hp2) (by rw [hyy]; exact hloc2)
    unfold wok walk
    dsimp only
    rw [hzz, hoff]
    exact ⟨⟨hp, ih.1⟩, ih.2⟩
/-- what a find meets -/
theorem find_loc {k E : Int} {l : List Pc} (hE : 0 ≤ E ∧ E ≤ 40) (hf : okF (fk l) l.length) (hl : l.length ≤ 600) (hn : l ≠ []) :
    wok k (lys E 10 l) l.length (lys E 10 l).length 0 ∧ loc (fk l) l.length k (fpc k (lys E 10 l)) ∧ fpc k (lys E 10 l) < l.length := by
  have hlast := lys_last (E := E) hE.1 10 l (by omega) hf
  have hp0 : 0 < (lyAt (l :: lys E 10 l) (lys E 10 l).length).length := by
    rcases Nat.eq_zero_or_pos (lys E 10 l).length with h | h
    · rw [h]
      show 0 < l.length
      exact List.length_pos_iff.mpr hn
    · have hy' := lyAt_get (Y := l :: lys E 10 l) (n := (lys E 10 l).length - 1 + 1) (by simp; omega)
      have hy := lyAt_get (Y := l :: lys E 10 l) (n := (lys E 10 l).length - 1) (by simp; omega)
      obtain ⟨e, h1⟩ := lys_get 10 l _ _ _ hy hy'
      rw [show (lys E 10 l).length - 1 + 1 = (lys E 10 l).length by omega] at e
      rw [e]
      exact mkGo_pos (by omega)
  exact walk_loc hE hf hl _ 0 (Nat.le_refl _) hp0 ⟨Or.inl rfl, fun j h1 h2 => by omega⟩
/-! the bounds of levels -/
theorem lys_bd {E : Int} {l : List Pc} (hE : 0 ≤ E ∧ E ≤ 40) (hf : okF (fk l) l.length) (hl : l.length ≤ 600) : ∀ (i : Nat) (y : List Pc), (lys E 10 l)[i]? = some y → y.length ≤ cap (19 + 5 * i) ∧ ksum y ≤ cap (19 + 5 * i) ∧ y.length ≤ 500 ∧ ksum y ≤ 1000 ∧ (∀ q, q ∈ y → pok q ∧ pmo q) := by
  have c0 : cap 19 = 600 := by decide +kernel
  have hlen := lys_len E 10 l
  intro i
  induction i with
  | zero =>
    intro y h
    have h0 : (l :: lys E 10 l)[0]? = some l := rfl
    obtain ⟨e, h1⟩ := lys_get 10 l 0 l y h0 (by rw [List.getElem?_cons_succ]; exact h)
    have k1 : ksum y = l.length := by rw [e]; exact ksum_mkGo _ _ _ _ _ (Nat.le_refl _)
    have k2 : 2 * y.length ≤ l.length + 1 := by rw [e]; exact len_mkGo_half hE.1 _ _ _ hf
    rw [show 19 + 5 * 0 = 19 by omega, c0]
    refine ⟨by omega, by omega, by omega, by omega, fun q hq => ?_⟩
    rw [e] at hq
    refine ⟨pok_mkGo hE _ _ _ hf (by omega) q hq, ?_⟩
    obtain ⟨p, hp⟩ := List.mem_iff_getElem?.mp hq
    obtain ⟨n', g1, -⟩ := mkGo_get hE.1 _ _ _ _ _ (Nat.le_refl _) hp
    rw [g1]; exact hE
  | succ i ih =>
    intro y h
    have hi := (List.getElem?_eq_some_iff.mp h).1
    have hz := lyAt_get (Y := lys E 10 l) (n := i) (by omega)
    obtain ⟨a1, a2, a3, a4, -⟩ := ih _ hz
    obtain ⟨e, h1⟩ := lys_get 10 l (i + 1) _ y (by rw [List.getElem?_cons_succ]; exact hz) (by rw [List.getElem?_cons_succ]; exact h)
    have hfz := lys_okF 10 l (i + 1) _ hf (by rw [List.getElem?_cons_succ]; exact hz)
    have hc := UT_cap (i := i) (by omega)
    have k1 : ksum y = (lyAt (lys E 10 l) i).length := by rw [e]; exact ksum_mkGo _ _ _ _ _ (Nat.le_refl _)
    have k2 : 2 * y.length ≤ (lyAt (lys E 10 l) i).length + 1 := by rw [e]; exact len_mkGo_half hE.1 _ _ _ hfz
    have hzl : (lyAt (lys E 10 l) i).length ≤ cap (19 + 5 * (i + 1)) := by
      have hzb : 2 * (lyAt (lys E 10 l) i).length ≤ ksum (lyAt (lys E 10 l) i) + 1 := by
        cases i with
        | zero =>
          have h0 : (l :: lys E 10 l)[0]? = some l := rfl
          obtain ⟨e0, -⟩ := lys_get 10 l 0 l _ h0 (by rw [List.getElem?_cons_succ]; exact hz)
          rw [e0]
          have q1 : ksum (mk E E (fk l) l.length) = l.length := ksum_mkGo _ _ _ _ _ (Nat.le_refl _)
          have q2 : 2 * (mk E E (fk l) l.length).length ≤ l.length + 1 := len_mkGo_half hE.1 _ _ _ hf
          omega
        | succ i =>
          have hw := lyAt_get (Y := lys E 10 l) (n := i) (by omega)
          obtain ⟨e0, -⟩ := lys_get 10 l (i + 1) _ _ (by rw [List.getElem?_cons_succ]; exact hw) (by rw [List.getElem?_cons_succ]; exact hz)
          have hfw := lys_okF 10 l (i + 1) _ hf (by rw [List.getElem?_cons_succ]; exact hw)
          rw [e0]
          have q1 : ksum (mk E E (fk (lyAt (lys E 10 l) i)) (lyAt (lys E 10 l) i).length) = (lyAt (lys E 10 l) i).length := ksum_mkGo _ _ _ _ _ (Nat.le_refl _)
          have q2 : 2 * (mk E E (fk (lyAt (lys E 10 l) i)) (lyAt (lys E 10 l) i).length).length ≤ (lyAt (lys E 10 l) i).length + 1 := len_mkGo_half hE.1 _ _ _ hfw
          omega
      omega
    refine ⟨by omega, by omega, by omega, by omega, fun q hq => ?_⟩
    rw [e] at hq
    refine ⟨pok_mkGo hE _ _ _ hfz (by omega) q hq, ?_⟩
    obtain ⟨p, hp⟩ := List.mem_iff_getElem?.mp hq
    obtain ⟨n', g1, -⟩ := mkGo_get hE.1 _ _ _ _ _ (Nat.le_refl _) hp
    rw [g1]; exact hE
theorem flat_bd {B C : Nat} : ∀ (s : List (List Pc)), (∀ y, y ∈ s → y.length ≤ B ∧ ksum y ≤ C) → s.flatten.length ≤ B * s.length ∧ ksum s.flatten ≤ C * s.length
  | [], _ => ⟨Nat.le_refl _, Nat.le_refl _⟩
  | y :: s, h => by
    have h1 := flat_bd s (fun z hz => h z (List.mem_cons_of_mem _ hz))
    have h2 := h y List.mem_cons_self
    rw [List.flatten_cons, List.length_append, ksum_app, List.length_cons, Nat.mul_add, Nat.mul_add]
    omega
theorem LvB_of {E : Int} {l : List Pc} (hE : 0 ≤ E ∧ E ≤ 40) (hf : okF (fk l) l.length) (hl : l.length ≤ 600) (hk : ksum l ≤ 1000) (hok : ∀ q, q ∈ l → pok q ∧ pmo q) : LvB (l :: lys E 10 l) ∧ LayB (lys E 10 l) ∧ (∀ (m : Nat) (y y' : List Pc), (l :: lys E 10 l)[m]? = some y → (l :: lys E 10 l)[m + 1]? = some y' → ksum y' = y.length) := by
  have hb := lys_bd hE hf hl
  have hlen := lys_len E 10 l
  have hfb := flat_bd (B := 500) (C := 1000) (lys E 10 l) (fun y hy => by
    obtain ⟨i, hi⟩ := List.mem_iff_getElem?.mp hy
    have := hb i y hi
    omega)
  have m1 : 500 * (lys E 10 l).length ≤ 500 * 10 := Nat.mul_le_mul_left _ hlen
  have m2 : 1000 * (lys E 10 l).length ≤ 1000 * 10 := Nat.mul_le_mul_left _ hlen
  refine ⟨⟨by simp; omega, ?_, ?_, fun i y hy => ?_⟩, fun i y hy => ?_, fun m y y' h h' => ?_⟩
  · rw [List.flatten_cons, List.length_append]; omega
  · rw [List.flatten_cons, ksum_app]; omega
  · cases i with
    | zero =>
      simp only [List.getElem?_cons_zero, Option.some.injEq] at hy
      subst hy; exact hok
    | succ i =>
      rw [List.getElem?_cons_succ] at hy
      exact (hb i y hy).2.2.2.2
  · obtain ⟨a, b, -, -, c⟩ := hb i y hy
    exact ⟨a, b, c⟩
  · obtain ⟨e, -⟩ := lys_get 10 l m y y' h h'
    rw [e]; exact ksum_mkGo _ _ _ _ _ (Nat.le_refl _)
