/-! ===== the greatest miss ===== -/
/-- the greatest difference between the guesses for the first keys and their places -/
def ms (q : Pc) : Nat → Int
  | 0 => 0
  | i + 1 => max (ms q i) ((gs q (kf q i - kf q 0) - i).natAbs : Int)
def gm (q : Pc) : Int := ms q (pks q).length
theorem clL_bd {x last : Int} (h : 0 ≤ last) : 0 ≤ clL x last ∧ clL x last ≤ last := by
  unfold clL
  split
  · omega
  · split <;> omega
theorem clR_bd {v : UInt64} {last : Int} (h : 0 ≤ last) : 0 ≤ clR v last ∧ clR v last ≤ last := by
  unfold clR
  split
  · omega
  · rename_i h1
    split
    · have h2 := zdiv_lt (Int.not_le.mp h1)
      rename_i h3
      have h4 : 0 ≤ zv v / O64 := Int.ediv_nonneg (by omega) (Int.le_of_lt O64_pos)
      omega
    · omega
theorem gs_bd {q : Pc} (h : gok q) (d : Int) : 0 ≤ gs q d ∧ gs q d ≤ (pks q).length - 1 := by
  obtain ⟨-, h1, h2⟩ := h
  unfold gs
  split
  · omega
  · split
    · exact clR_bd (by omega)
    · exact clL_bd (by omega)
theorem ms_bd {q : Pc} (h : gok q) : ∀ i, i ≤ (pks q).length → 0 ≤ ms q i ∧ ms q i ≤ 2000
  | 0, _ => by unfold ms; omega
  | i + 1, hi => by
    have h1 := ms_bd h i (by omega)
    have h2 := gs_bd h (kf q i - kf q 0)
    have h3 := h.2.2
    unfold ms
    omega
/-- the keys of a piece lie within the ends -/
def kbd (q : Pc) : Prop := ∀ i, i < (pks q).length → -1000000000000 ≤ kf q i ∧ kf q i ≤ 1000000000000
def kik (q : Pc) : Prop := pki q = 0 ∨ pki q = 1 ∨ pki q = 2
theorem c_greatestMiss_13 {M : Im} {t a st sl n : Nat} {q : Pc} {Q K : Int → Im → Prop} (hk : K0 ≤ gz M) (ht : t ∈ TL) (ha : 97 ≤ a) (ha' : a < gz M) (hP : PR M t a st sl q) (hn : gI M t 4 = (n : Nat)) (hn1 : st + (pks q).length ≤ n) (hn2 : n ≤ cap t) (hq : gok q) (hki : kik q) (hb : kbd q)
    (hK : K (gm q) M) : ∀ (d i : Nat), i + d = (pks q).length → sp_X2_greatestMiss_13 (d + 1) t (some a) (kf q 0) (ms q i) i M Q K
  | 0, i, h => by
    obtain rfl : i = (pks q).length := by omega
    unfold sp_X2_greatestMiss_13
    refine ⟨a, rfl, iO_hi ha ha', ?_⟩
    rw [hP.1.2.2.2.1]
    exact ⟨fun _ => hK, fun h => by omega⟩
  | d + 1, i, h => by
    have hc := TL_cap ht
    have hm := ms_bd hq i (by omega)
    have b0 := hb 0 (by omega)
    have bi := hb i (by omega)
    have hg := gs_bd hq (kf q i - kf q 0)
    have hl := hq.2.2
    unfold sp_X2_greatestMiss_13
    refine ⟨a, rfl, iO_hi ha ha', ?_⟩
    rw [hP.1.2.2.2.1]
    refine ⟨fun h => by omega, fun _ => ?_⟩
    refine c_keyOf hk ht ha ha' hP hn hn1 hn2 (fun j hj hj2 => ?_) (fun h => absurd (by omega) h)
    obtain rfl : j = i := by omega
    refine ⟨by omega, c_guessAway ha ha' hP hq hki (by omega) ⟨by omega, ?_⟩⟩
    have ih := c_greatestMiss_13 (Q := Q) (K := K) hk ht ha ha' hP hn hn1 hn2 hq hki hb hK d (j + 1) (by omega)
    have e : ms q (j + 1) = max (ms q j) ((gs q (kf q j - kf q 0) - j).natAbs : Int) := rfl
    unfold sp_J9_abs_0f7a4 sp_J9_max_7cf53
    refine ⟨fun h0 => ⟨fun h1 => ⟨by omega, ?_⟩, fun h1 => ⟨by omega, ?_⟩⟩, fun h0 => ⟨by omega, fun h1 => ⟨by omega, ?_⟩, fun h1 => ⟨by omega, ?_⟩⟩⟩
    · rintro i10 rfl
      rw [show gs q (kf q j - kf q 0) - (j : Int) = ms q (j + 1) by omega]
      exact ih
    · rintro i10 rfl
      rw [show ms q j = ms q (j + 1) by omega]
      exact ih
    · rintro i10 rfl
      rw [show -(gs q (kf q j - kf q 0) - (j : Int)) = ms q (j + 1) by omega]
      exact ih
    · rintro i10 rfl
      rw [show ms q j = ms q (j + 1) by omega]
      exact ih
theorem c_greatestMiss {M : Im} {t a st sl n : Nat} {q : Pc} {Q : Int → Im → Prop} (hk : K0 ≤ gz M) (ht : t ∈ TL) (ha : 97 ≤ a) (ha' : a < gz M) (hP : PR M t a st sl q) (hn : gI M t 4 = (n : Nat)) (hn1 : st + (pks q).length ≤ n) (hn2 : n ≤ cap t) (hq : gok q) (hki : kik q) (hb : kbd q)
    (hQ : Q (gm q) M) : sp_X2_greatestMiss t (some a) M Q := by
  unfold sp_X2_greatestMiss
  refine ⟨TL_O ht hk, c_keyOf hk ht ha ha' hP hn hn1 hn2 (fun j hj hj2 => ?_) (fun h => absurd ⟨Int.le_refl _, by have := hq.2.1; omega⟩ h)⟩
  obtain rfl : j = 0 := by omega
  exact ⟨(pks q).length + 1, c_greatestMiss_13 (Q := Q) (K := fun x4 M => Q x4 M) hk ht ha ha' hP hn hn1 hn2 hq hki hb hQ (pks q).length 0 (by omega)⟩
/-- a piece, rounded if it may be -/
def asKind (k : Int) (q : Pc) : Pc := ((k, q.1.2), q.2)
def rnd (q : Pc) : Pc := if gm (asKind 2 q) ≤ pma q then asKind 2 q else asKind 1 q
theorem kf_as (k : Int) (q : Pc) (i : Nat) : kf (asKind k q) i = kf q i := rfl
theorem c_turnRounded {M : Im} {t a st sl n : Nat} {q : Pc} {Q : Int → Im → Prop} (hk : K0 ≤ gz M) (ht : t ∈ TL) (ha : 97 ≤ a) (ha' : a < gz M) (hP : PR M t a st sl q) (hn : gI M t 4 = (n : Nat)) (hn1 : st + (pks q).length ≤ n) (hn2 : n ≤ cap t) (hq : gok q) (hb : kbd q)
    (hQ : ∀ M', Ag (· = a) M M' → PR M' t a st sl (rnd q) → Q (if gm (asKind 2 q) ≤ pma q then 1 else 0) M') : sp_X2_turnRounded t (some a) M Q := by
  have hP' := hP
  have htl := TL_facts t ht
  obtain ⟨⟨a0, a1, a2, a3, a4, a5⟩, ⟨a6, a7, a8⟩, a9, b1, b2⟩ := hP
  have hq' : gok (asKind 2 q) := hq
  obtain ⟨v1, v2⟩ := lineB_dbl hq' (d := 0) (by omega)
  have nA : nn (FP.ddiv (FP.l2d (lz (pln q).1)) (FP.l2d (lz (pln q).2.1))) := by
    obtain ⟨⟨l1, l2, l3, l4, l5, l6⟩, -, -⟩ := hq
    exact nn_of_mag (dbl_mag (by omega) (by omega)) (by decide)
  have nB : nn (FP.ddiv (FP.l2d (lz (pln q).2.2)) (FP.l2d (lz (pln q).2.1))) := by
    obtain ⟨⟨l1, l2, l3, l4, l5, l6⟩, -, -⟩ := hq
    exact nn_of_mag (dbl_mag (by omega) (by omega)) (by decide)
  unfold sp_X2_turnRounded
  refine ⟨TL_O ht hk, a, rfl, iO_hi ha ha', ?_⟩
  rw [a7]
  obtain ⟨⟨l1, l2, l3, l4, l5, l6⟩, -, -⟩ := hq
  refine ⟨fun _ => ?_, fun h => by omega⟩
  rintro M2 rfl f3 e3 M4 rfl f5 e5 M6 rfl
  simp only [gI_pI, gI_pL, gI_pD, gI_pR, gI_pnw, gI_pcp, gL_pI, gL_pL, gL_pD, gL_pR, gL_pnw, gL_pcp, gD_pI, gD_pL, gD_pD, gD_pR, gD_pnw, gD_pcp, gR_pI, gR_pL, gR_pD, gR_pR, gR_pnw, gR_pcp, gz_pI, gz_pL, gz_pD, gz_pR, gz_pnw, gz_pcp, a6, a7, a8] at e3 e5
  have e3 := alike_eq nA e3
  have e5 := alike_eq nB e5
  subst e3
  subst e5
  have g : Ag (· = a) M (pD (pD (pI M a 0 2) a 9 (FP.ddiv (FP.l2d (lz (pln q).1)) (FP.l2d (lz (pln q).2.1)))) a 10 (FP.ddiv (FP.l2d (lz (pln q).2.2)) (FP.l2d (lz (pln q).2.1)))) := (((Ag.refl (S := (· = a))).pI rfl).pD rfl).pD rfl
  have hP6 : PR (pD (pD (pI M a 0 2) a 9 (FP.ddiv (FP.l2d (lz (pln q).1)) (FP.l2d (lz (pln q).2.1)))) a 10 (FP.ddiv (FP.l2d (lz (pln q).2.2)) (FP.l2d (lz (pln q).2.1)))) t a st sl (asKind 2 q) := by
    refine ⟨⟨?_, ?_, ?_, ?_, ?_, ?_⟩, ⟨?_, ?_, ?_⟩, ?_, ?_, ?_⟩
    · simp [gI_pI, gI_pL, gI_pD, gI_pR, gI_pnw, gI_pcp, gL_pI, gL_pL, gL_pD, gL_pR, gL_pnw, gL_pcp, gD_pI, gD_pL, gD_pD, gD_pR, gD_pnw, gD_pcp, gR_pI, gR_pL, gR_pD, gR_pR, gR_pnw, gR_pcp, gz_pI, gz_pL, gz_pD, gz_pR, gz_pnw, gz_pcp]; rfl
    · simp [gI_pI, gI_pL, gI_pD, gI_pR, gI_pnw, gI_pcp, gL_pI, gL_pL, gL_pD, gL_pR, gL_pnw, gL_pcp, gD_pI, gD_pL, gD_pD, gD_pR, gD_pnw, gD_pcp, gR_pI, gR_pL, gR_pD, gR_pR, gR_pnw, gR_pcp, gz_pI, gz_pL, gz_pD, gz_pR, gz_pnw, gz_pcp, a1]; rfl
    · simp [gI_pI, gI_pL, gI_pD, gI_pR, gI_pnw, gI_pcp, gL_pI, gL_pL, gL_pD, gL_pR, gL_pnw, gL_pcp, gD_pI, gD_pL, gD_pD, gD_pR, gD_pnw, gD_pcp, gR_pI, gR_pL, gR_pD, gR_pR, gR_pnw, gR_pcp, gz_pI, gz_pL, gz_pD, gz_pR, gz_pnw, gz_pcp, a2]
    · simp [gI_pI, gI_pL, gI_pD, gI_pR, gI_pnw, gI_pcp, gL_pI, gL_pL, gL_pD, gL_pR, gL_pnw, gL_pcp, gD_pI, gD_pL, gD_pD, gD_pR, gD_pnw, gD_pcp, gR_pI, gR_pL, gR_pD, gR_pR, gR_pnw, gR_pcp, gz_pI, gz_pL, gz_pD, gz_pR, gz_pnw, gz_pcp, a3]; rfl
    · simp [gI_pI, gI_pL, gI_pD, gI_pR, gI_pnw, gI_pcp, gL_pI, gL_pL, gL_pD, gL_pR, gL_pnw, gL_pcp, gD_pI, gD_pL, gD_pD, gD_pR, gD_pnw, gD_pcp, gR_pI, gR_pL, gR_pD, gR_pR, gR_pnw, gR_pcp, gz_pI, gz_pL, gz_pD, gz_pR, gz_pnw, gz_pcp, a4]
    · simp [gI_pI, gI_pL, gI_pD, gI_pR, gI_pnw, gI_pcp, gL_pI, gL_pL, gL_pD, gL_pR, gL_pnw, gL_pcp, gD_pI, gD_pL, gD_pD, gD_pR, gD_pnw, gD_pcp, gR_pI, gR_pL, gR_pD, gR_pR, gR_pnw, gR_pcp, gz_pI, gz_pL, gz_pD, gz_pR, gz_pnw, gz_pcp, a5]; rfl
    · simp [gI_pI, gI_pL, gI_pD, gI_pR, gI_pnw, gI_pcp, gL_pI, gL_pL, gL_pD, gL_pR, gL_pnw, gL_pcp, gD_pI, gD_pL, gD_pD, gD_pR, gD_pnw, gD_pcp, gR_pI, gR_pL, gR_pD, gR_pR, gR_pnw, gR_pcp, gz_pI, gz_pL, gz_pD, gz_pR, gz_pnw, gz_pcp, a6]; rfl
    · simp [gI_pI, gI_pL, gI_pD, gI_pR, gI_pnw, gI_pcp, gL_pI, gL_pL, gL_pD, gL_pR, gL_pnw, gL_pcp, gD_pI, gD_pL, gD_pD, gD_pR, gD_pnw, gD_pcp, gR_pI, gR_pL, gR_pD, gR_pR, gR_pnw, gR_pcp, gz_pI, gz_pL, gz_pD, gz_pR, gz_pnw, gz_pcp, a7]; rfl
    · simp [gI_pI, gI_pL, gI_pD, gI_pR, gI_pnw, gI_pcp, gL_pI, gL_pL, gL_pD, gL_pR, gL_pnw, gL_pcp, gD_pI, gD_pL, gD_pD, gD_pR, gD_pnw, gD_pcp, gR_pI, gR_pL, gR_pD, gR_pR, gR_pnw, gR_pcp, gz_pI, gz_pL, gz_pD, gz_pR, gz_pnw, gz_pcp, a8]; rfl
    · intro _; constructor <;> simp [gI_pI, gI_pL, gI_pD, gI_pR, gI_pnw, gI_pcp, gL_pI, gL_pL, gL_pD, gL_pR, gL_pnw, gL_pcp, gD_pI, gD_pL, gD_pD, gD_pR, gD_pnw, gD_pcp, gR_pI, gR_pL, gR_pD, gR_pR, gR_pnw, gR_pcp, gz_pI, gz_pL, gz_pD, gz_pR, gz_pnw, gz_pcp] <;> rfl
    · intro i hi
      have := b1 i hi
      simp only [gI_pI, gI_pL, gI_pD, gI_pR, gI_pnw, gI_pcp, gL_pI, gL_pL, gL_pD, gL_pR, gL_pnw, gL_pcp, gD_pI, gD_pL, gD_pD, gD_pR, gD_pnw, gD_pcp, gR_pI, gR_pL, gR_pD, gR_pR, gR_pnw, gR_pcp, gz_pI, gz_pL, gz_pD, gz_pR, gz_pnw, gz_pcp, if_neg (show ¬ (t + 2 = a ∧ st + i = 0) by omega)]
      exact this
    · intro i hi
      have := b2 i hi
      simp only [gI_pI, gI_pL, gI_pD, gI_pR, gI_pnw, gI_pcp, gL_pI, gL_pL, gL_pD, gL_pR, gL_pnw, gL_pcp, gD_pI, gD_pL, gD_pD, gD_pR, gD_pnw, gD_pcp, gR_pI, gR_pL, gR_pD, gR_pR, gR_pnw, gR_pcp, gz_pI, gz_pL, gz_pD, gz_pR, gz_pnw, gz_pcp]
      exact this
  generalize pD (pD (pI M a 0 2) a 9 (FP.ddiv (FP.l2d (lz (pln q).1)) (FP.l2d (lz (pln q).2.1)))) a 10 (FP.ddiv (FP.l2d (lz (pln q).2.2)) (FP.l2d (lz (pln q).2.1))) = M6 at g hP6
  have ne : ¬ t = a := by omega
  refine c_greatestMiss (g.k0 hk) ht ha (by rw [g.1]; exact ha') hP6 (by rw [g.I ne]; exact hn) hn1 hn2 hq' (Or.inr (Or.inr rfl)) hb ?_
  rw [hP6.1.2.1]
  have ema : pma (asKind 2 q) = pma q := rfl
  rw [ema]
  unfold rnd at hQ
  refine ⟨fun h => ?_, fun h => ?_⟩
  · rw [if_pos h, if_pos h] at hQ
    exact hQ M6 g hP6
  · rw [if_neg (by omega), if_neg (by omega)] at hQ
    rintro M9 rfl
    refine hQ _ (g.pI rfl) ?_
    obtain ⟨⟨c0, c1, c2, c3, c4, c5⟩, ⟨c6, c7, c8⟩, c9, d1, d2⟩ := hP6
    refine ⟨⟨?_, ?_, ?_, ?_, ?_, ?_⟩, ⟨?_, ?_, ?_⟩, ?_, ?_, ?_⟩
    · simp [gI_pI, gI_pL, gI_pD, gI_pR, gI_pnw, gI_pcp, gL_pI, gL_pL, gL_pD, gL_pR, gL_pnw, gL_pcp, gD_pI, gD_pL, gD_pD, gD_pR, gD_pnw, gD_pcp, gR_pI, gR_pL, gR_pD, gR_pR, gR_pnw, gR_pcp, gz_pI, gz_pL, gz_pD, gz_pR, gz_pnw, gz_pcp]; rfl
    · simp [gI_pI, gI_pL, gI_pD, gI_pR, gI_pnw, gI_pcp, gL_pI, gL_pL, gL_pD, gL_pR, gL_pnw, gL_pcp, gD_pI, gD_pL, gD_pD, gD_pR, gD_pnw, gD_pcp, gR_pI, gR_pL, gR_pD, gR_pR, gR_pnw, gR_pcp, gz_pI, gz_pL, gz_pD, gz_pR, gz_pnw, gz_pcp, c1]; rfl
    · simp [gI_pI, gI_pL, gI_pD, gI_pR, gI_pnw, gI_pcp, gL_pI, gL_pL, gL_pD, gL_pR, gL_pnw, gL_pcp, gD_pI, gD_pL, gD_pD, gD_pR, gD_pnw, gD_pcp, gR_pI, gR_pL, gR_pD, gR_pR, gR_pnw, gR_pcp, gz_pI, gz_pL, gz_pD, gz_pR, gz_pnw, gz_pcp, c2]
    · simp [gI_pI, gI_pL, gI_pD, gI_pR, gI_pnw, gI_pcp, gL_pI, gL_pL, gL_pD, gL_pR, gL_pnw, gL_pcp, gD_pI, gD_pL, gD_pD, gD_pR, gD_pnw, gD_pcp, gR_pI, gR_pL, gR_pD, gR_pR, gR_pnw, gR_pcp, gz_pI, gz_pL, gz_pD, gz_pR, gz_pnw, gz_pcp, c3]; rfl
    · simp [gI_pI, gI_pL, gI_pD, gI_pR, gI_pnw, gI_pcp, gL_pI, gL_pL, gL_pD, gL_pR, gL_pnw, gL_pcp, gD_pI, gD_pL, gD_pD, gD_pR, gD_pnw, gD_pcp, gR_pI, gR_pL, gR_pD, gR_pR, gR_pnw, gR_pcp, gz_pI, gz_pL, gz_pD, gz_pR, gz_pnw, gz_pcp, c4]
    · simp [gI_pI, gI_pL, gI_pD, gI_pR, gI_pnw, gI_pcp, gL_pI, gL_pL, gL_pD, gL_pR, gL_pnw, gL_pcp, gD_pI, gD_pL, gD_pD, gD_pR, gD_pnw, gD_pcp, gR_pI, gR_pL, gR_pD, gR_pR, gR_pnw, gR_pcp, gz_pI, gz_pL, gz_pD, gz_pR, gz_pnw, gz_pcp, c5]; rfl
    · simp only [gI_pI, gI_pL, gI_pD, gI_pR, gI_pnw, gI_pcp, gL_pI, gL_pL, gL_pD, gL_pR, gL_pnw, gL_pcp, gD_pI, gD_pL, gD_pD, gD_pR, gD_pnw, gD_pcp, gR_pI, gR_pL, gR_pD, gR_pR, gR_pnw, gR_pcp, gz_pI, gz_pL, gz_pD, gz_pR, gz_pnw, gz_pcp, c6]; rfl
    · simp only [gI_pI, gI_pL, gI_pD, gI_pR, gI_pnw, gI_pcp, gL_pI, gL_pL, gL_pD, gL_pR, gL_pnw, gL_pcp, gD_pI, gD_pL, gD_pD, gD_pR, gD_pnw, gD_pcp, gR_pI, gR_pL, gR_pD, gR_pR, gR_pnw, gR_pcp, gz_pI, gz_pL, gz_pD, gz_pR, gz_pnw, gz_pcp, c7]; rfl
    · simp only [gI_pI, gI_pL, gI_pD, gI_pR, gI_pnw, gI_pcp, gL_pI, gL_pL, gL_pD, gL_pR, gL_pnw, gL_pcp, gD_pI, gD_pL, gD_pD, gD_pR, gD_pnw, gD_pcp, gR_pI, gR_pL, gR_pD, gR_pR, gR_pnw, gR_pcp, gz_pI, gz_pL, gz_pD, gz_pR, gz_pnw, gz_pcp, c8]; rfl
    · intro h2; cases h2
    · intro i hi
      have := d1 i hi
      simp only [gI_pI, gI_pL, gI_pD, gI_pR, gI_pnw, gI_pcp, gL_pI, gL_pL, gL_pD, gL_pR, gL_pnw, gL_pcp, gD_pI, gD_pL, gD_pD, gD_pR, gD_pnw, gD_pcp, gR_pI, gR_pL, gR_pD, gR_pR, gR_pnw, gR_pcp, gz_pI, gz_pL, gz_pD, gz_pR, gz_pnw, gz_pcp, if_neg (show ¬ (t + 2 = a ∧ st + i = 0) by omega)]
      exact this
    · intro i hi
      have := d2 i hi
      simp only [gI_pI, gI_pL, gI_pD, gI_pR, gI_pnw, gI_pcp, gL_pI, gL_pL, gL_pD, gL_pR, gL_pnw, gL_pcp, gD_pI, gD_pL, gD_pD, gD_pR, gD_pnw, gD_pcp, gR_pI, gR_pL, gR_pD, gR_pR, gR_pnw, gR_pcp, gz_pI, gz_pL, gz_pD, gz_pR, gz_pnw, gz_pcp]
      exact this
