/-! ===== gather: the keys that are there in some pieces of a tier ===== -/
theorem c_mini {M : Im} {a b : Int} {Q : Int → Im → Prop} (hQ : Q (min a b) M) : sp_J9_min_7cf53 a b M Q := by
  unfold sp_J9_min_7cf53
  refine ⟨fun h => ?_, fun h => ?_⟩
  · rw [Int.min_eq_right (by omega)] at hQ; exact hQ
  · rw [Int.min_eq_left h] at hQ; exact hQ
theorem KS_split (l : List Pc) {fr to : Nat} (h : fr ≤ to) : KS (l.take to) = KS (l.take fr) ++ KS ((l.take to).drop fr) := by
  have e : (l.take to).take fr = l.take fr := by rw [List.take_take, Nat.min_eq_left h]
  rw [← e, ← KS_app, List.take_append_drop]
theorem TS_split (l : List Pc) {fr to : Nat} (h : fr ≤ to) : TS (l.take to) = TS (l.take fr) ++ TS ((l.take to).drop fr) := by
  have e : (l.take to).take fr = l.take fr := by rw [List.take_take, Nat.min_eq_left h]
  rw [← e, ← TS_app, List.take_append_drop]
/-- what gather puts into the row: of the pieces l, merged -/
def mgl (l : List Pc) : List Int := mg (KS l) (TS l)
theorem mg_len : ∀ (n : Nat) (ks : List (Int × Int)) (ts : List Int), ks.length + ts.length ≤ n → (mg ks ts).length ≤ ks.length + ts.length
  | n, [], ts, h => by rw [mg_nil]; simp
  | 0, (k, d) :: ks, ts, h => by simp at h
  | n + 1, (k, d) :: ks, [], h => by
    have := mg_len n ks [] (by simp at h ⊢; omega)
    rw [mg_cn]
    simp only [List.length_cons, List.length_nil, Nat.add_zero] at this ⊢
    split
    · simp only [List.length_cons]; omega
    · omega
  | n + 1, (k, d) :: ks, t :: ts, h => by
    have h1 := mg_len n ks (t :: ts) (by simp at h ⊢; omega)
    have h2 := mg_len n ((k, d) :: ks) ts (by simp at h ⊢; omega)
    rw [mg_cc]
    simp only [List.length_cons] at h1 h2 ⊢
    split
    · simp only [List.length_cons]; omega
    · split
      · simp only [List.length_cons]; omega
      · omega
theorem mgl_len (l : List Pc) : (mgl l).length ≤ ksum l + tsum l := by
  have := mg_len _ (KS l) (TS l) (Nat.le_refl _)
  rw [KS_len, TS_len] at this
  exact this
theorem c_gather {M : Im} {t fr to : Nat} {l : List Pc} {Q : Int → Im → Prop} (hk : K0 ≤ gz M) (ht : t ∈ TL) (hT : TR M t l) (hl : l.length ≤ cap t) (hK : ksum l ≤ cap t) (hTs : tsum l ≤ alen (t + 3)) (hlt : fr < to) (hto : to ≤ l.length) (hput : ksum l + tsum l ≤ 590)
    (hQ : ∀ M', Ag (· = 18) M M' → (∀ j k, (mgl ((l.take to).drop fr))[j]? = some k → gL M' 18 j = k) → Q (mgl ((l.take to).drop fr)).length M') : sp_X2_gather t fr to (some 18) M Q := by
  have hcap := TL_cap ht
  have ft := TL_facts t ht
  obtain ⟨-, -, -, -, -, ft1, ft2, ftc, ft0, -, ft3, ft4, ft5⟩ := ft
  have ek : ksum (l.take to) = ksum (l.take fr) + ksum ((l.take to).drop fr) := by
    have := congrArg List.length (KS_split l (Nat.le_of_lt hlt))
    rw [List.length_append, KS_len, KS_len, KS_len] at this
    exact this
  have et : tsum (l.take to) = tsum (l.take fr) + tsum ((l.take to).drop fr) := by
    have := congrArg List.length (TS_split l (Nat.le_of_lt hlt))
    rw [List.length_append, TS_len, TS_len, TS_len] at this
    exact this
  have k1 := ksum_take_le l to
  have t1 := tsum_take_le l to
  have ml := mgl_len ((l.take to).drop fr)
  unfold sp_X2_gather
  refine ⟨TL_O ht hk, ?_⟩
  refine c_pieceAt hk ht hT hl (fun p q a hp hq ha1 ha2 hr hPR => ⟨by omega, ?_⟩) (fun h => absurd (by omega) h)
  obtain rfl : p = fr := by omega
  refine c_pieceAt hk ht hT hl (fun p' q' b hp' hq' hb1 hb2 hr' hPR' => ⟨fun h => (by cases h), fun a2 ha2' => ⟨fun h => (by cases h), fun b2 hb2' => ?_⟩⟩) (fun h => absurd (by omega) h)
  cases ha2'
  cases hb2'
  obtain rfl : to = p' + 1 := by omega
  have s1 := ksum_succ hq'
  have s2 := tsum_succ hq'
  obtain ⟨⟨c0, c1, c2, c3, c4, c5⟩, -⟩ := hPR'
  obtain ⟨⟨d0, d1, d2, d3, d4, d5⟩, -⟩ := hPR
  rw [c4, c5, hT.2.1]
  refine ⟨iO_hi hb1 hb2, by omega, c_mini ?_⟩
  rw [c2, c3, hT.1]
  refine ⟨by omega, c_mini ⟨iO_hi ha1 ha2, ?_⟩⟩
  rw [d2, d4]
  rintro i20 rfl i21 rfl
  obtain ⟨rk, rt⟩ := hT.rows (p' + 1) hto
  refine ⟨(KS ((l.take (p' + 1)).drop p)).length + (TS ((l.take (p' + 1)).drop p)).length + 1, ?_⟩
  have e1 : min ((tsum (l.take p') : Int) + ((plt q').length : Nat)) (tsum l : Nat) = ((tsum (l.take p) : Nat) : Int) + ((TS ((l.take (p' + 1)).drop p)).length : Nat) := by
    rw [TS_len]; omega
  have e2 : min ((ksum (l.take p') : Int) + ((pks q').length : Nat)) (ksum l : Nat) = ((ksum (l.take p) : Nat) : Int) + ((KS ((l.take (p' + 1)).drop p)).length : Nat) := by
    rw [KS_len]; omega
  rw [e1, e2]
  have key := c_gather_85 (Q := Q) (K := fun x10 M => Q x10 M) ht _ (KS ((l.take (p' + 1)).drop p)) (TS ((l.take (p' + 1)).drop p)) (ksum (l.take p)) (tsum (l.take p)) 0 (M := M) rfl hk (by rw [KS_len]; omega) (by rw [TS_len]; omega) (by have : (mg (KS ((l.take (p' + 1)).drop p)) (TS ((l.take (p' + 1)).drop p))).length = (mgl ((l.take (p' + 1)).drop p)).length := rfl; omega) (fun j k d hj => ?_) (fun j k hj => ?_) (fun M' g _ h => ?_)
  · exact key
  · refine rk _ _ _ ?_
    rw [KS_split l (Nat.le_of_lt hlt), List.getElem?_append_right (by rw [KS_len]; omega), KS_len, show ksum (l.take p) + j - ksum (l.take p) = j by omega]
    exact hj
  · refine rt _ _ ?_
    rw [TS_split l (Nat.le_of_lt hlt), List.getElem?_append_right (by rw [TS_len]; omega), TS_len, show tsum (l.take p) + j - tsum (l.take p) = j by omega]
    exact hj
  · have := hQ M' g (fun j k hj => by have := h j k hj; rw [Nat.zero_add] at this; exact this)
    rw [Nat.zero_add]
    exact this
theorem c_gather0 {M : Im} {t : Nat} {Q : Int → Im → Prop} (hk : K0 ≤ gz M) (ht : t ∈ TL) (hT : TR M t []) (hQ : Q 0 M) : sp_X2_gather t 0 0 (some 18) M Q := by
  unfold sp_X2_gather
  refine ⟨TL_O ht hk, ?_⟩
  refine c_pieceAt hk ht hT (by simp) (fun p q a hp hq ha1 ha2 hr hPR => by simp at hq) (fun h => ⟨by omega, ?_⟩)
  exact c_pieceAt hk ht hT (by simp) (fun p q a hp hq ha1 ha2 hr hPR => by simp at hq) (fun h => ⟨fun _ => hQ, fun a h => by cases h⟩)
/-- all that is there -/
theorem c_gatherAll {M : Im} {t : Nat} {l : List Pc} {Q : Int → Im → Prop} (hk : K0 ≤ gz M) (ht : t ∈ TL) (h3 : gR M 0 3 = some t) (hT : TR M t l) (hl : l.length ≤ cap t) (hK : ksum l ≤ cap t) (hTs : tsum l ≤ alen (t + 3)) (hput : ksum l + tsum l ≤ 590)
    (hQ : ∀ M', Ag (· = 18) M M' → (∀ j k, (mgl l)[j]? = some k → gL M' 18 j = k) → Q (mgl l).length M') : sp_X4_gatherAll 0 M Q := by
  unfold sp_X4_gatherAll
  refine ⟨iO_c hk (by decide) rfl, ?_⟩
  rintro r1 rfl r2 rfl
  refine ⟨t, h3, TL_O ht hk, t, h3, TL_O ht hk, ?_⟩
  rw [hT.2.2.1]
  by_cases hn : l = []
  · subst hn
    have := hQ M Ag.refl (fun j k h => by simp [mgl, KS, TS, mg] at h)
    exact c_gather0 hk ht hT (by simpa [mgl, KS, TS, mg] using this)
  · have hp : 0 < l.length := List.length_pos_iff.mpr hn
    have e : (l.take l.length).drop 0 = l := by simp
    have := c_gather (Q := Q) (fr := 0) (to := l.length) hk ht hT hl hK hTs hp (Nat.le_refl _) hput (fun M' g h => by rw [e] at h ⊢; exact hQ M' g h)
    exact this
