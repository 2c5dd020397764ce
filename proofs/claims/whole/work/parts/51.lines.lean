/-! ===== lines: the greatest LOWER and the least UPPER of points, as the code gathers them ===== -/
/-- rise and run of the least UPPER and the first place of it, rise and run of the greatest LOWER -/
abbrev St : Type := Int × Int × Int × Int × Int
def s0 : St := (1, 0, 0, -1, 0)
/-- two points i before j of f, with the margin m -/
def pr (m : Int) (f : Nat → Int) (i j : Nat) (s : St) : St :=
  ((if ((j : Int) - i + 2 * m) * s.2.1 < s.1 * (f j - f i) then (j : Int) - i + 2 * m else s.1),
   (if ((j : Int) - i + 2 * m) * s.2.1 < s.1 * (f j - f i) then f j - f i else s.2.1),
   (if ((j : Int) - i + 2 * m) * s.2.1 < s.1 * (f j - f i) then (i : Int) else s.2.2.1),
   (if s.2.2.2.1 * (f j - f i) < ((j : Int) - i - 2 * m) * s.2.2.2.2 then (j : Int) - i - 2 * m else s.2.2.2.1),
   (if s.2.2.2.1 * (f j - f i) < ((j : Int) - i - 2 * m) * s.2.2.2.2 then f j - f i else s.2.2.2.2))
def rowF (m : Int) (f : Nat → Int) (j : Nat) : Nat → St → St
  | 0, s => s
  | i + 1, s => pr m f i j (rowF m f j i s)
/-- all pairs of the points 0 .. j -/
def allF (m : Int) (f : Nat → Int) : Nat → St
  | 0 => s0
  | j + 1 => rowF m f (j + 1) (j + 1) (allF m f j)
abbrev fitS (s : St) : Prop := s.2.2.2.1 * s.2.1 ≤ s.1 * s.2.2.2.2
def StB (s : St) : Prop := -3000 ≤ s.1 ∧ s.1 ≤ 3000 ∧ 0 ≤ s.2.1 ∧ s.2.1 ≤ 2000000000000 ∧ 0 ≤ s.2.2.1 ∧ s.2.2.1 ≤ 2000 ∧ -3000 ≤ s.2.2.2.1 ∧ s.2.2.2.1 ≤ 3000 ∧ 0 ≤ s.2.2.2.2 ∧ s.2.2.2.2 ≤ 2000000000000
theorem StB_s0 : StB s0 := by unfold StB s0; dsimp only; omega
theorem mul_bd {a b A B : Int} (ha : -A ≤ a) (ha' : a ≤ A) (hb : 0 ≤ b) (hb' : b ≤ B) : -(A * B) ≤ a * b ∧ a * b ≤ A * B := by
  have hA : 0 ≤ A := by omega
  constructor
  · have h1 : (-A) * b ≤ a * b := Int.mul_le_mul_of_nonneg_right ha hb
    have h2 : A * b ≤ A * B := Int.mul_le_mul_of_nonneg_left hb' hA
    rw [Int.neg_mul] at h1
    omega
  · have h1 : a * b ≤ A * b := Int.mul_le_mul_of_nonneg_right ha' hb
    have h2 : A * b ≤ A * B := Int.mul_le_mul_of_nonneg_left hb' hA
    omega
/-- what may be asked of keys: rising, within the far ends -/
def okF (f : Nat → Int) (n : Nat) : Prop := (∀ i, i < n → -1000000000000 ≤ f i ∧ f i ≤ 1000000000000) ∧ ∀ i j, i < j → j < n → f i < f j
theorem StB_pr {m : Int} {f : Nat → Int} {i j n : Nat} {s : St} (h : StB s) (hf : okF f n) (hij : i < j) (hj : j < n) (hn : n ≤ 600) (hm : 0 ≤ m ∧ m ≤ 40) : StB (pr m f i j s) := by
  have h1 := hf.1 i (by omega)
  have h2 := hf.1 j hj
  have h3 := hf.2 i j hij hj
  unfold StB at h
  unfold StB pr
  dsimp only
  refine ⟨?_, ?_, ?_, ?_, ?_, ?_, ?_, ?_, ?_, ?_⟩ <;> split <;> omega
/-- the class's Slopes object holds s, places counted from off on -/
def SlopeIs (off : Int) (M : Im) (s : St) : Prop := gL M 17 2 = s.1 ∧ gL M 17 3 = s.2.1 ∧ (0 < s.2.1 → gI M 17 4 = s.2.2.1 + off) ∧ gL M 17 0 = s.2.2.2.1 ∧ gL M 17 1 = s.2.2.2.2
theorem c_narrow_82 {M : Im} {run lo : Int} {Q : Im → Prop} {off : Int} {s : St} (hs : SlopeIs off M s) (hb : StB s) (hr : 0 ≤ run ∧ run ≤ 2000000000000) (hl : -3000 ≤ lo ∧ lo ≤ 3000)
    (hQ : ∀ M', Ag (· = 17) M M' → SlopeIs off M' (s.1, s.2.1, s.2.2.1, (if s.2.2.2.1 * run < lo * s.2.2.2.2 then lo else s.2.2.2.1), (if s.2.2.2.1 * run < lo * s.2.2.2.2 then run else s.2.2.2.2)) → Q M') : sp_X1_narrow_82 17 run lo M Q := by
  obtain ⟨g1, g2, g3, g4, g5⟩ := hs
  unfold StB at hb
  have q3 := mul_bd (a := s.2.2.2.1) (b := run) (A := 3000) (B := 2000000000000) (by omega) (by omega) (by omega) (by omega)
  have q4 := mul_bd (a := lo) (b := s.2.2.2.2) (A := 3000) (B := 2000000000000) (by omega) (by omega) (by omega) (by omega)
  unfold sp_X1_narrow_82
  rw [g4, g5]
  refine ⟨by omega, by omega, fun h => ?_, fun h => ?_⟩
  · refine hQ M Ag.refl ⟨g1, g2, g3, ?_, ?_⟩
    · dsimp only; rw [if_neg (by omega)]; exact g4
    · dsimp only; rw [if_neg (by omega)]; exact g5
  · rintro M1 rfl M2 rfl
    refine hQ _ (((Ag.refl (S := (· = 17))).pL rfl).pL rfl) ⟨?_, ?_, ?_, ?_, ?_⟩
    · simp [gI_pI, gI_pL, gI_pD, gI_pR, gI_pnw, gI_pcp, gL_pI, gL_pL, gL_pD, gL_pR, gL_pnw, gL_pcp, gD_pI, gD_pL, gD_pD, gD_pR, gD_pnw, gD_pcp, gR_pI, gR_pL, gR_pD, gR_pR, gR_pnw, gR_pcp, gz_pI, gz_pL, gz_pD, gz_pR, gz_pnw, gz_pcp, g1]
    · simp [gI_pI, gI_pL, gI_pD, gI_pR, gI_pnw, gI_pcp, gL_pI, gL_pL, gL_pD, gL_pR, gL_pnw, gL_pcp, gD_pI, gD_pL, gD_pD, gD_pR, gD_pnw, gD_pcp, gR_pI, gR_pL, gR_pD, gR_pR, gR_pnw, gR_pcp, gz_pI, gz_pL, gz_pD, gz_pR, gz_pnw, gz_pcp, g2]
    · simp only [gI_pI, gI_pL, gI_pD, gI_pR, gI_pnw, gI_pcp, gL_pI, gL_pL, gL_pD, gL_pR, gL_pnw, gL_pcp, gD_pI, gD_pL, gD_pD, gD_pR, gD_pnw, gD_pcp, gR_pI, gR_pL, gR_pD, gR_pR, gR_pnw, gR_pcp, gz_pI, gz_pL, gz_pD, gz_pR, gz_pnw, gz_pcp]; exact g3
    · simp [gI_pI, gI_pL, gI_pD, gI_pR, gI_pnw, gI_pcp, gL_pI, gL_pL, gL_pD, gL_pR, gL_pnw, gL_pcp, gD_pI, gD_pL, gD_pD, gD_pR, gD_pnw, gD_pcp, gR_pI, gR_pL, gR_pD, gR_pR, gR_pnw, gR_pcp, gz_pI, gz_pL, gz_pD, gz_pR, gz_pnw, gz_pcp, h]
    · simp [gI_pI, gI_pL, gI_pD, gI_pR, gI_pnw, gI_pcp, gL_pI, gL_pL, gL_pD, gL_pR, gL_pnw, gL_pcp, gD_pI, gD_pL, gD_pD, gD_pR, gD_pnw, gD_pcp, gR_pI, gR_pL, gR_pD, gR_pR, gR_pnw, gR_pcp, gz_pI, gz_pL, gz_pD, gz_pR, gz_pnw, gz_pcp, h]
theorem c_narrow {M : Im} {a : Nat} {i j off n : Nat} {m : Int} {f : Nat → Int} {s : St} {Q : Im → Prop} (hk : K0 ≤ gz M) (hA : iA M a .long) (hij : i < j) (hjn : j < n) (hn : n ≤ 600) (hoff : off + n ≤ alen a) (ha : alen a ≤ 600) (hm : 0 ≤ m ∧ m ≤ 40) (hf : okF f n)
    (hfi : ∀ k, k < n → gL M a (off + k) = f k) (hs : SlopeIs off M s) (hb : StB s) (hQ : ∀ M', Ag (· = 17) M M' → SlopeIs off M' (pr m f i j s) → Q M') :
    sp_X1_narrow 17 (some a) ((off : Int) + i) ((off : Int) + j) m M Q := by
  have e1 := hfi i (by omega)
  have e2 := hfi j hjn
  have b1 := hf.1 i (by omega)
  have b2 := hf.1 j hjn
  have b3 := hf.2 i j hij hjn
  have hs' := hs
  obtain ⟨g1, g2, g3, g4, g5⟩ := hs'
  have hb' := hb
  unfold StB at hb'
  unfold sp_X1_narrow
  refine ⟨iO_c hk (by decide) rfl, fun h => by omega, fun _ => ⟨fun h => by omega, fun _ => ⟨a, rfl, hA, fun _ => ?_, fun h => by omega⟩⟩⟩
  rw [show ((off : Int) + j).toNat = off + j by omega, show ((off : Int) + i).toNat = off + i by omega, e1, e2]
  refine ⟨by omega, by omega, by omega, ?_⟩
  rintro j4 rfl
  refine ⟨by omega, by omega, by omega, ?_⟩
  intro j5 h5
  obtain rfl : j5 = (j : Int) - i + 2 * m := by omega
  refine ⟨by omega, by omega, by omega, ?_⟩
  intro j6 h6
  obtain rfl : j6 = (j : Int) - i - 2 * m := by omega
  have q1 := mul_bd (a := s.1) (b := f j - f i) (A := 3000) (B := 2000000000000) (by omega) (by omega) (by omega) (by omega)
  have q2 := mul_bd (a := (j : Int) - i + 2 * m) (b := s.2.1) (A := 3000) (B := 2000000000000) (by omega) (by omega) (by omega) (by omega)
  rw [g1, g2]
  refine ⟨by omega, by omega, fun h => ?_, fun h => ?_⟩
  · refine c_narrow_82 hs hb (by omega) (by omega) fun M' hA' hs' => hQ M' hA' ?_
    have h' : ¬ ((j : Int) - i + 2 * m) * s.2.1 < s.1 * (f j - f i) := by omega
    unfold pr
    simp only [h', if_false]
    exact hs'
  · rintro M7 rfl M8 rfl M9 rfl
    refine c_narrow_82 (off := off) (s := ((j : Int) - i + 2 * m, f j - f i, (i : Int), s.2.2.2.1, s.2.2.2.2)) ⟨?_, ?_, ?_, ?_, ?_⟩ ?_ (by omega) (by omega) fun M' hA' hs' => hQ M' (((((Ag.refl (S := (· = 17))).pL rfl).pL rfl).pI rfl).trans hA') ?_
    · simp [gI_pI, gI_pL, gI_pD, gI_pR, gI_pnw, gI_pcp, gL_pI, gL_pL, gL_pD, gL_pR, gL_pnw, gL_pcp, gD_pI, gD_pL, gD_pD, gD_pR, gD_pnw, gD_pcp, gR_pI, gR_pL, gR_pD, gR_pR, gR_pnw, gR_pcp, gz_pI, gz_pL, gz_pD, gz_pR, gz_pnw, gz_pcp]
    · simp [gI_pI, gI_pL, gI_pD, gI_pR, gI_pnw, gI_pcp, gL_pI, gL_pL, gL_pD, gL_pR, gL_pnw, gL_pcp, gD_pI, gD_pL, gD_pD, gD_pR, gD_pnw, gD_pcp, gR_pI, gR_pL, gR_pD, gR_pR, gR_pnw, gR_pcp, gz_pI, gz_pL, gz_pD, gz_pR, gz_pnw, gz_pcp]
    · simp [gI_pI, gI_pL, gI_pD, gI_pR, gI_pnw, gI_pcp, gL_pI, gL_pL, gL_pD, gL_pR, gL_pnw, gL_pcp, gD_pI, gD_pL, gD_pD, gD_pR, gD_pnw, gD_pcp, gR_pI, gR_pL, gR_pD, gR_pR, gR_pnw, gR_pcp, gz_pI, gz_pL, gz_pD, gz_pR, gz_pnw, gz_pcp]; omega
    · simp [gI_pI, gI_pL, gI_pD, gI_pR, gI_pnw, gI_pcp, gL_pI, gL_pL, gL_pD, gL_pR, gL_pnw, gL_pcp, gD_pI, gD_pL, gD_pD, gD_pR, gD_pnw, gD_pcp, gR_pI, gR_pL, gR_pD, gR_pR, gR_pnw, gR_pcp, gz_pI, gz_pL, gz_pD, gz_pR, gz_pnw, gz_pcp, g4]
    · simp [gI_pI, gI_pL, gI_pD, gI_pR, gI_pnw, gI_pcp, gL_pI, gL_pL, gL_pD, gL_pR, gL_pnw, gL_pcp, gD_pI, gD_pL, gD_pD, gD_pR, gD_pnw, gD_pcp, gR_pI, gR_pL, gR_pD, gR_pR, gR_pnw, gR_pcp, gz_pI, gz_pL, gz_pD, gz_pR, gz_pnw, gz_pcp, g5]
    · unfold StB; dsimp only; omega
    · unfold pr
      simp only [h, if_true]
      exact hs'
theorem c_leaveSome {M : Im} {off : Int} {s : St} {Q : Int → Im → Prop} (hk : K0 ≤ gz M) (hs : SlopeIs off M s) (hb : StB s) (h1 : fitS s → Q 1 M) (h0 : ¬ fitS s → Q 0 M) : sp_X1_leaveSome 17 M Q := by
  obtain ⟨g1, g2, g3, g4, g5⟩ := hs
  unfold StB at hb
  have q1 := mul_bd (a := s.1) (b := s.2.2.2.2) (A := 3000) (B := 2000000000000) (by omega) (by omega) (by omega) (by omega)
  have q2 := mul_bd (a := s.2.2.2.1) (b := s.2.1) (A := 3000) (B := 2000000000000) (by omega) (by omega) (by omega) (by omega)
  unfold fitS at h1 h0
  unfold sp_X1_leaveSome
  rw [g1, g2, g4, g5]
  exact ⟨iO_c hk (by decide) rfl, by omega, by omega, fun h => ⟨Or.inl rfl, h0 (by omega)⟩, fun h => ⟨Or.inr rfl, h1 h⟩⟩
theorem StB_rowF {m : Int} {f : Nat → Int} {j n : Nat} {s : St} (h : StB s) (hf : okF f n) (hj : j < n) (hn : n ≤ 600) (hm : 0 ≤ m ∧ m ≤ 40) : ∀ i, i ≤ j → StB (rowF m f j i s)
  | 0, _ => h
  | i + 1, hi => StB_pr (StB_rowF h hf hj hn hm i (by omega)) hf (by omega) hj hn hm
theorem StB_allF {m : Int} {f : Nat → Int} {n : Nat} (hf : okF f n) (hn : n ≤ 600) (hm : 0 ≤ m ∧ m ≤ 40) : ∀ j, j < n → StB (allF m f j)
  | 0, _ => StB_s0
  | j + 1, hj => StB_rowF (StB_allF hf hn hm j (by omega)) hf hj hn hm (j + 1) (Nat.le_refl _)
theorem c_admit_21 {a off n : Nat} {m : Int} {f : Nat → Int} {j : Nat} {Q : Int → Im → Prop} {K : Nat → Int → Int → Int → Im → Prop} {r1 r2 r3 : Int} {s : St} (hjn : j < n) (hn : n ≤ 600) (hoff : off + n ≤ alen a) (ha : alen a ≤ 600) (hm : 0 ≤ m ∧ m ≤ 40) (hf : okF f n) (h17 : a ≠ 17) (hb0 : StB s) :
    ∀ (d i : Nat) {M : Im}, i + d = j → K0 ≤ gz M → iA M a .long → (∀ k, k < n → gL M a (off + k) = f k) → SlopeIs off M (rowF m f j i s) → (∀ M', Ag (· = 17) M M' → SlopeIs off M' (rowF m f j j s) → K 17 r1 r2 r3 M') →
    sp_X1_admit_21 (d + 1) 17 (some a) ((off : Int) + j) m r1 r2 r3 ((off : Int) + i) M Q K
  | 0, i, M, hd, hk, hA, hfi, hs, hQ => by
    obtain rfl : i = j := by omega
    unfold sp_X1_admit_21
    exact ⟨fun _ => hQ M Ag.refl hs, fun h => by omega⟩
  | d + 1, i, M, hd, hk, hA, hfi, hs, hQ => by
    unfold sp_X1_admit_21
    refine ⟨fun h => by omega, fun _ => ?_⟩
    refine c_narrow hk hA (by omega) hjn hn hoff ha hm hf hfi hs (StB_rowF hb0 hf hjn hn hm i (by omega)) fun M1 g1 hs1 => ⟨by omega, ?_⟩
    rintro i2 rfl
    refine c_admit_21 hjn hn hoff ha hm hf h17 hb0 d (i + 1) (by omega) (g1.k0 hk) (g1.A hA) (fun k hk => by rw [g1.L h17]; exact hfi k hk) hs1 fun M' g2 hs2 => hQ M' (g1.trans g2) hs2
/-- the state when the span's end is found: the least UPPER of those that fit -/
def upOf (off : Int) (M : Im) (s : St) : Prop := gL M 17 2 = s.1 ∧ gL M 17 3 = s.2.1 ∧ (0 < s.2.1 → gI M 17 4 = s.2.2.1 + off)
theorem c_admit {M : Im} {a off n : Nat} {m : Int} {f : Nat → Int} {j : Nat} {Q : Int → Im → Prop} {s : St} (hk : K0 ≤ gz M) (hA : iA M a .long) (hjn : j < n) (hn : n ≤ 600) (hoff : off + n ≤ alen a) (ha : alen a ≤ 600) (hm : 0 ≤ m ∧ m ≤ 40) (hf : okF f n) (h17 : a ≠ 17) (hb0 : StB s)
    (hfi : ∀ k, k < n → gL M a (off + k) = f k) (hs : SlopeIs off M s)
    (h1 : fitS (rowF m f j j s) → ∀ M', Ag (· = 17) M M' → SlopeIs off M' (rowF m f j j s) → Q 1 M') (h0 : ¬ fitS (rowF m f j j s) → ∀ M', Ag (· = 17) M M' → upOf off M' s → Q 0 M') :
    sp_X1_admit 17 (some a) off ((off : Int) + j) m M Q := by
  unfold sp_X1_admit
  refine ⟨iO_c hk (by decide) rfl, ?_⟩
  rintro j8 rfl j9 rfl i10 rfl
  refine ⟨j + 1, ?_⟩
  have e : (off : Int) = off + ((0 : Nat) : Int) := by omega
  rw [show sp_X1_admit_21 (j + 1) 17 (some a) ((off : Int) + j) m (gL M 17 2) (gL M 17 3) (gI M 17 4) (off : Int) M Q = sp_X1_admit_21 (j + 1) 17 (some a) ((off : Int) + j) m (gL M 17 2) (gL M 17 3) (gI M 17 4) ((off : Int) + ((0 : Nat) : Int)) M Q from by rw [← e]]
  refine c_admit_21 hjn hn hoff ha hm hf h17 hb0 j 0 (by omega) hk hA hfi hs fun M1 g1 hs1 => ?_
  refine c_leaveSome (g1.k0 hk) hs1 (StB_rowF hb0 hf hjn hn hm j (Nat.le_refl _)) (fun hfit => ⟨fun h => by omega, fun _ => h1 hfit M1 g1 hs1⟩) (fun hfit => ⟨fun _ => ?_, fun h => absurd rfl h⟩)
  rintro M5 rfl M6 rfl M7 rfl
  refine h0 hfit _ (((g1.pL rfl).pL rfl).pI rfl) ⟨?_, ?_, ?_⟩
  · simp [gI_pI, gI_pL, gI_pD, gI_pR, gI_pnw, gI_pcp, gL_pI, gL_pL, gL_pD, gL_pR, gL_pnw, gL_pcp, gD_pI, gD_pL, gD_pD, gD_pR, gD_pnw, gD_pcp, gR_pI, gR_pL, gR_pD, gR_pR, gR_pnw, gR_pcp, gz_pI, gz_pL, gz_pD, gz_pR, gz_pnw, gz_pcp, hs.1]
  · simp [gI_pI, gI_pL, gI_pD, gI_pR, gI_pnw, gI_pcp, gL_pI, gL_pL, gL_pD, gL_pR, gL_pnw, gL_pcp, gD_pI, gD_pL, gD_pD, gD_pR, gD_pnw, gD_pcp, gR_pI, gR_pL, gR_pD, gR_pR, gR_pnw, gR_pcp, gz_pI, gz_pL, gz_pD, gz_pR, gz_pnw, gz_pcp, hs.2.1]
  · intro h; simp [gI_pI, gI_pL, gI_pD, gI_pR, gI_pnw, gI_pcp, gL_pI, gL_pL, gL_pD, gL_pR, gL_pnw, gL_pcp, gD_pI, gD_pL, gD_pD, gD_pR, gD_pnw, gD_pcp, gR_pI, gR_pL, gR_pD, gR_pR, gR_pnw, gR_pcp, gz_pI, gz_pL, gz_pD, gz_pR, gz_pnw, gz_pcp, hs.2.2.1 h]
/-- how many points the span has that begins with the first of n: grown from j on, with what is gathered for j of them -/
def spanGo (m : Int) (f : Nat → Int) (n : Nat) : Nat → Nat → Nat
  | 0, j => j
  | d + 1, j => if j < n ∧ fitS (allF m f j) then spanGo m f n d (j + 1) else j
def spanLen (m : Int) (f : Nat → Int) (n : Nat) : Nat := spanGo m f n (n - 1) 1
theorem spanGo_le (m : Int) (f : Nat → Int) (n : Nat) : ∀ d j, j ≤ n → j ≤ spanGo m f n d j ∧ spanGo m f n d j ≤ n
  | 0, j, h => ⟨Nat.le_refl _, h⟩
  | d + 1, j, h => by
    unfold spanGo
    split
    · have := spanGo_le m f n d (j + 1) (by omega); omega
    · omega
theorem spanLen_pos {m : Int} {f : Nat → Int} {n : Nat} (h : 0 < n) : 1 ≤ spanLen m f n ∧ spanLen m f n ≤ n := spanGo_le m f n (n - 1) 1 (by omega)
theorem fitS_all0 (m : Int) (f : Nat → Int) : fitS (allF m f 0) := by unfold fitS allF s0; dsimp only; omega
/-- what is gathered for the points of the span fits -/
theorem spanGo_fit (m : Int) (f : Nat → Int) (n : Nat) : ∀ d j, fitS (allF m f (j - 1)) → fitS (allF m f (spanGo m f n d j - 1))
  | 0, j, h => h
  | d + 1, j, h => by
    unfold spanGo
    split
    · exact spanGo_fit m f n d (j + 1) (by simpa using (by assumption : j < n ∧ fitS (allF m f j)).2)
    · exact h
theorem spanLen_fit (m : Int) (f : Nat → Int) (n : Nat) : fitS (allF m f (spanLen m f n - 1)) := spanGo_fit m f n (n - 1) 1 (fitS_all0 m f)
theorem c_endOfSpan_9 {a off n : Nat} {m : Int} {f : Nat → Int} {Q : Int → Im → Prop} {K : Int → Im → Prop} (hn : n ≤ 600) (hoff : off + n ≤ alen a) (ha : alen a ≤ 600) (hm : 0 ≤ m ∧ m ≤ 40) (hf : okF f n) (h17 : a ≠ 17) :
    ∀ (d j : Nat) {M : Im}, j + d = n → 1 ≤ j → K0 ≤ gz M → iA M a .long → (∀ k, k < n → gL M a (off + k) = f k) → SlopeIs off M (allF m f (j - 1)) → (∀ M', Ag (· = 17) M M' → upOf off M' (allF m f (spanGo m f n d j - 1)) → K ((off : Int) + (spanGo m f n d j : Nat)) M') →
    sp_X1_endOfSpan_9 (d + 1) 17 (some a) off ((off : Int) + n) m ((off : Int) + j) M Q K
  | 0, j, M, hd, hj, hk, hA, hfi, hs, hQ => by
    obtain rfl : j = n := by omega
    unfold sp_X1_endOfSpan_9
    exact ⟨fun _ => hQ M Ag.refl ⟨hs.1, hs.2.1, hs.2.2.1⟩, fun h => by omega⟩
  | d + 1, j, M, hd, hj, hk, hA, hfi, hs, hQ => by
    unfold sp_X1_endOfSpan_9
    refine ⟨fun h => by omega, fun _ => ?_⟩
    have hb := StB_allF hf hn hm (j - 1) (by omega)
    obtain ⟨i, rfl⟩ : ∃ i, j = i + 1 := ⟨j - 1, by omega⟩
    have e : allF m f (i + 1) = rowF m f (i + 1) (i + 1) (allF m f i) := rfl
    refine c_admit hk hA (by omega) hn hoff ha hm hf h17 hb hfi hs (fun hfit M1 g1 hs1 => ⟨fun h => by omega, fun _ => ⟨by omega, ?_⟩⟩) (fun hfit M1 g1 hs1 => ⟨fun _ => ?_, fun h => absurd rfl h⟩)
    · rintro i3 rfl
      have e2 : spanGo m f n (d + 1) (i + 1) = spanGo m f n d (i + 1 + 1) := by
        rw [spanGo, if_pos ⟨by omega, by rw [e]; exact hfit⟩]
      rw [e2] at hQ
      exact c_endOfSpan_9 hn hoff ha hm hf h17 d (i + 1 + 1) (by omega) (by omega) (g1.k0 hk) (g1.A hA) (fun k hk => by rw [g1.L h17]; exact hfi k hk) hs1 fun M' g2 hs2 => hQ M' (g1.trans g2) hs2
    · have e2 : spanGo m f n (d + 1) (i + 1) = i + 1 := by
        rw [spanGo, if_neg]
        intro h
        exact hfit h.2
      rw [e2] at hQ
      exact hQ M1 g1 hs1
theorem c_forget {M : Im} {Q : Im → Prop} (hk : K0 ≤ gz M) (hQ : ∀ M', Ag (· = 17) M M' → (∀ off, SlopeIs off M' s0) → Q M') : sp_X1_forget 17 M Q := by
  unfold sp_X1_forget
  refine ⟨iO_c hk (by decide) rfl, ?_⟩
  rintro M1 rfl M2 rfl M3 rfl M4 rfl M5 rfl
  refine hQ _ ((((((Ag.refl (S := (· = 17))).pL rfl).pL rfl).pL rfl).pL rfl).pI rfl) fun off => ⟨?_, ?_, ?_, ?_, ?_⟩ <;> simp [gI_pI, gI_pL, gI_pD, gI_pR, gI_pnw, gI_pcp, gL_pI, gL_pL, gL_pD, gL_pR, gL_pnw, gL_pcp, gD_pI, gD_pL, gD_pD, gD_pR, gD_pnw, gD_pcp, gR_pI, gR_pL, gR_pD, gR_pR, gR_pnw, gR_pcp, gz_pI, gz_pL, gz_pD, gz_pR, gz_pnw, gz_pcp, s0]
theorem c_endOfSpan {M : Im} {a off n : Nat} {m : Int} {f : Nat → Int} {Q : Int → Im → Prop} (hk : K0 ≤ gz M) (hA : iA M a .long) (hn0 : 0 < n) (hn : n ≤ 600) (hoff : off + n ≤ alen a) (ha : alen a ≤ 600) (hm : 0 ≤ m ∧ m ≤ 40) (hf : okF f n) (h17 : a ≠ 17)
    (hfi : ∀ k, k < n → gL M a (off + k) = f k) (hQ : ∀ M', Ag (· = 17) M M' → upOf off M' (allF m f (spanLen m f n - 1)) → Q ((off : Int) + (spanLen m f n : Nat)) M') :
    sp_X1_endOfSpan 17 (some a) off ((off : Int) + n) m M Q := by
  unfold sp_X1_endOfSpan
  refine ⟨iO_c hk (by decide) rfl, c_forget hk fun M1 g1 hs => ⟨by omega, ?_⟩⟩
  rintro i5 rfl
  refine ⟨n - 1 + 1, ?_⟩
  exact c_endOfSpan_9 (Q := Q) (K := fun x5 M => Q x5 M) hn hoff ha hm hf h17 (n - 1) 1 (M := M1) (by omega) (Nat.le_refl _) (g1.k0 hk) (g1.A hA) (fun k hk => by rw [g1.L h17]; exact hfi k hk) (hs off) fun M' g2 hu => hQ M' (g1.trans g2) hu
/-- three points i, j, l: whether a line passes them -/
def three (m : Int) (f : Nat → Int) (i j l : Nat) : St := pr m f j l (pr m f i l (pr m f i j s0))
theorem c_passThree {M : Im} {a i j l n : Nat} {m : Int} {f : Nat → Int} {Q : Int → Im → Prop} (hk : K0 ≤ gz M) (hA : iA M a .long) (hij : i < j) (hjl : j < l) (hl : l < n) (hn : n ≤ 600) (hoff : n ≤ alen a) (ha : alen a ≤ 600) (hm : 0 ≤ m ∧ m ≤ 40) (hf : okF f n) (h17 : a ≠ 17)
    (hfi : ∀ k, k < n → gL M a k = f k) (h1 : fitS (three m f i j l) → ∀ M', Ag (· = 17) M M' → Q 1 M') (h0 : ¬ fitS (three m f i j l) → ∀ M', Ag (· = 17) M M' → Q 0 M') :
    sp_X1_passThree 17 (some a) i j l m M Q := by
  unfold sp_X1_passThree
  have z : ∀ k : Nat, (k : Int) = ((0 : Nat) : Int) + (k : Int) := fun k => by omega
  have hb1 : StB (pr m f i j s0) := StB_pr StB_s0 hf hij (by omega) hn hm
  have hb2 := StB_pr hb1 hf (show i < l by omega) hl hn hm
  have hb3 := StB_pr hb2 hf hjl hl hn hm
  refine ⟨iO_c hk (by decide) rfl, c_forget hk fun M1 g1 hs => ?_⟩
  rw [z i, z j, z l]
  have hfi' : ∀ k, k < n → gL M a (0 + k) = f k := fun k hk => by rw [Nat.zero_add]; exact hfi k hk
  refine c_narrow (g1.k0 hk) (g1.A hA) hij (by omega) hn (by omega) ha hm hf (fun k hk => by rw [g1.L h17]; exact hfi' k hk) (hs _) StB_s0 fun M2 g2 hs2 => ?_
  have G2 := g1.trans g2
  refine c_narrow (G2.k0 hk) (G2.A hA) (show i < l by omega) hl hn (by omega) ha hm hf (fun k hk => by rw [G2.L h17]; exact hfi' k hk) hs2 hb1 fun M3 g3 hs3 => ?_
  have G3 := G2.trans g3
  refine c_narrow (G3.k0 hk) (G3.A hA) hjl hl hn (by omega) ha hm hf (fun k hk => by rw [G3.L h17]; exact hfi' k hk) hs3 hb2 fun M4 g4 hs4 => ?_
  have G4 := G3.trans g4
  exact c_leaveSome (G4.k0 hk) hs4 hb3 (fun h => ⟨Or.inr rfl, h1 h M4 G4⟩) (fun h => ⟨Or.inl rfl, h0 h M4 G4⟩)
/-! the model's lines: its upperRun is 0 as long as there is none -/
def ModIs (off : Int) (M : Im) (s : St) : Prop := (gL M 69 5 = 0 ∧ gL M 69 7 = 0 ∧ s = s0) ∨ (0 < s.2.1 ∧ 0 < s.2.2.2.2 ∧ gL M 69 4 = s.1 ∧ gL M 69 5 = s.2.1 ∧ gI M 69 8 = s.2.2.1 + off ∧ gL M 69 6 = s.2.2.2.1 ∧ gL M 69 7 = s.2.2.2.2)
theorem pr_s0 {m : Int} {f : Nat → Int} {i j : Nat} (h : f i < f j) : pr m f i j s0 = ((j : Int) - i + 2 * m, f j - f i, (i : Int), (j : Int) - i - 2 * m, f j - f i) := by
  unfold pr s0
  dsimp only
  rw [if_pos (by omega), if_pos (by omega), if_pos (by omega), if_pos (by omega), if_pos (by omega)]
theorem d_pair {M : Im} {i j off n : Nat} {m z : Int} {f : Nat → Int} {s : St} {Q : Im → Prop} (hk : K0 ≤ gz M) (hij : i < j) (hjn : j < n) (hn : n ≤ 600) (hoff : off + n ≤ 5000) (hm : 0 ≤ m ∧ m ≤ 40) (hf : okF f n)
    (hfi : ∀ k, k < n → gL M 71 (off + k) = f k) (hs : ModIs off M s) (hb : StB s) (hQ : ∀ M', Ag (· = 69) M M' → ModIs off M' (pr m f i j s) → (∀ k, k ≠ 8 → gI M' 69 k = gI M 69 k) → Q M') :
    sp_X5_pair 69 ((off : Int) + i) ((off : Int) + j) z m M Q := by
  have e1 := hfi i (by omega)
  have e2 := hfi j hjn
  have b1 := hf.1 i (by omega)
  have b2 := hf.1 j hjn
  have b3 := hf.2 i j hij hjn
  have a71 : alen 71 = 5000 := rfl
  unfold sp_X5_pair
  rw [show ((off : Int) + j).toNat = off + j by omega, show ((off : Int) + i).toNat = off + i by omega, e1, e2, a71]
  refine ⟨iO_c hk (by decide) rfl, by omega, by omega, by omega, ?_⟩
  rintro j6 rfl
  refine ⟨by omega, by omega, by omega, ?_⟩
  intro j7 h7
  obtain rfl : j7 = (j : Int) - i + 2 * m := by omega
  refine ⟨by omega, by omega, by omega, ?_⟩
  intro j8 h8
  obtain rfl : j8 = (j : Int) - i - 2 * m := by omega
  rcases hs with ⟨g1, g2, rfl⟩ | ⟨hp1, hp2, g1, g2, g3, g4, g5⟩
  · rw [g1]
    refine ⟨fun _ => ?_, fun h => absurd rfl h⟩
    rintro M1 rfl M2 rfl M3 rfl
    unfold sp_X5_pair_87
    refine ⟨fun _ => ?_, fun h => absurd (by simp [gI_pI, gI_pL, gI_pD, gI_pR, gI_pnw, gI_pcp, gL_pI, gL_pL, gL_pD, gL_pR, gL_pnw, gL_pcp, gD_pI, gD_pL, gD_pD, gD_pR, gD_pnw, gD_pcp, gR_pI, gR_pL, gR_pD, gR_pR, gR_pnw, gR_pcp, gz_pI, gz_pL, gz_pD, gz_pR, gz_pnw, gz_pcp, g2]) h⟩
    rintro M4 rfl M5 rfl
    refine hQ _ (((((Ag.refl (S := (· = 69))).pL rfl).pL rfl).pI rfl).pL rfl |>.pL rfl) (Or.inr ?_) ?_
    · rw [pr_s0 b3]
      refine ⟨by dsimp only; omega, by dsimp only; omega, ?_, ?_, ?_, ?_, ?_⟩ <;> simp [gI_pI, gI_pL, gI_pD, gI_pR, gI_pnw, gI_pcp, gL_pI, gL_pL, gL_pD, gL_pR, gL_pnw, gL_pcp, gD_pI, gD_pL, gD_pD, gD_pR, gD_pnw, gD_pcp, gR_pI, gR_pL, gR_pD, gR_pR, gR_pnw, gR_pcp, gz_pI, gz_pL, gz_pD, gz_pR, gz_pnw, gz_pcp]
      omega
    · intro k hk; simp [gI_pI, gI_pL, gI_pD, gI_pR, gI_pnw, gI_pcp, gL_pI, gL_pL, gL_pD, gL_pR, gL_pnw, gL_pcp, gD_pI, gD_pL, gD_pD, gD_pR, gD_pnw, gD_pcp, gR_pI, gR_pL, gR_pD, gR_pR, gR_pnw, gR_pcp, gz_pI, gz_pL, gz_pD, gz_pR, gz_pnw, gz_pcp, hk]
  · have hb' := hb
    unfold StB at hb'
    have q1 := mul_bd (a := s.1) (b := f j - f i) (A := 3000) (B := 2000000000000) (by omega) (by omega) (by omega) (by omega)
    have q2 := mul_bd (a := (j : Int) - i + 2 * m) (b := s.2.1) (A := 3000) (B := 2000000000000) (by omega) (by omega) (by omega) (by omega)
    have q3 := mul_bd (a := s.2.2.2.1) (b := f j - f i) (A := 3000) (B := 2000000000000) (by omega) (by omega) (by omega) (by omega)
    have q4 := mul_bd (a := (j : Int) - i - 2 * m) (b := s.2.2.2.2) (A := 3000) (B := 2000000000000) (by omega) (by omega) (by omega) (by omega)
    have low : ∀ M1, Ag (· = 69) M M1 → (∀ k, k ≠ 8 → gI M1 69 k = gI M 69 k) → gL M1 69 4 = (pr m f i j s).1 → gL M1 69 5 = (pr m f i j s).2.1 → gI M1 69 8 = (pr m f i j s).2.2.1 + off → gL M1 69 6 = s.2.2.2.1 → gL M1 69 7 = s.2.2.2.2 → 0 < (pr m f i j s).2.1 → sp_X5_pair_87 69 (f j - f i) ((j : Int) - i - 2 * m) M1 Q := by
      intro M1 ga gi r1 r2 r3 r4 r5 hpos
      unfold sp_X5_pair_87
      rw [r4, r5]
      refine ⟨fun h => by omega, fun _ => ⟨by omega, by omega, fun h => ?_, fun h => ?_⟩⟩
      · have h' : ¬ s.2.2.2.1 * (f j - f i) < ((j : Int) - i - 2 * m) * s.2.2.2.2 := by omega
        refine hQ M1 ga (Or.inr ⟨hpos, ?_, r1, r2, r3, ?_, ?_⟩) gi
        · unfold pr; dsimp only; rw [if_neg h']; exact hp2
        · unfold pr; dsimp only; rw [if_neg h']; exact r4
        · unfold pr; dsimp only; rw [if_neg h']; exact r5
      · rintro M4 rfl M5 rfl
        refine hQ _ ((ga.pL rfl).pL rfl) (Or.inr ⟨hpos, ?_, ?_, ?_, ?_, ?_, ?_⟩) ?_
        · unfold pr; dsimp only; rw [if_pos h]; omega
        · simp [gI_pI, gI_pL, gI_pD, gI_pR, gI_pnw, gI_pcp, gL_pI, gL_pL, gL_pD, gL_pR, gL_pnw, gL_pcp, gD_pI, gD_pL, gD_pD, gD_pR, gD_pnw, gD_pcp, gR_pI, gR_pL, gR_pD, gR_pR, gR_pnw, gR_pcp, gz_pI, gz_pL, gz_pD, gz_pR, gz_pnw, gz_pcp, r1]
        · simp [gI_pI, gI_pL, gI_pD, gI_pR, gI_pnw, gI_pcp, gL_pI, gL_pL, gL_pD, gL_pR, gL_pnw, gL_pcp, gD_pI, gD_pL, gD_pD, gD_pR, gD_pnw, gD_pcp, gR_pI, gR_pL, gR_pD, gR_pR, gR_pnw, gR_pcp, gz_pI, gz_pL, gz_pD, gz_pR, gz_pnw, gz_pcp, r2]
        · simp [gI_pI, gI_pL, gI_pD, gI_pR, gI_pnw, gI_pcp, gL_pI, gL_pL, gL_pD, gL_pR, gL_pnw, gL_pcp, gD_pI, gD_pL, gD_pD, gD_pR, gD_pnw, gD_pcp, gR_pI, gR_pL, gR_pD, gR_pR, gR_pnw, gR_pcp, gz_pI, gz_pL, gz_pD, gz_pR, gz_pnw, gz_pcp, r3]
        · unfold pr; dsimp only; rw [if_pos h]; simp [gI_pI, gI_pL, gI_pD, gI_pR, gI_pnw, gI_pcp, gL_pI, gL_pL, gL_pD, gL_pR, gL_pnw, gL_pcp, gD_pI, gD_pL, gD_pD, gD_pR, gD_pnw, gD_pcp, gR_pI, gR_pL, gR_pD, gR_pR, gR_pnw, gR_pcp, gz_pI, gz_pL, gz_pD, gz_pR, gz_pnw, gz_pcp]
        · unfold pr; dsimp only; rw [if_pos h]; simp [gI_pI, gI_pL, gI_pD, gI_pR, gI_pnw, gI_pcp, gL_pI, gL_pL, gL_pD, gL_pR, gL_pnw, gL_pcp, gD_pI, gD_pL, gD_pD, gD_pR, gD_pnw, gD_pcp, gR_pI, gR_pL, gR_pD, gR_pR, gR_pnw, gR_pcp, gz_pI, gz_pL, gz_pD, gz_pR, gz_pnw, gz_pcp]
        · intro k hk; simp only [gI_pI, gI_pL, gI_pD, gI_pR, gI_pnw, gI_pcp, gL_pI, gL_pL, gL_pD, gL_pR, gL_pnw, gL_pcp, gD_pI, gD_pL, gD_pD, gD_pR, gD_pnw, gD_pcp, gR_pI, gR_pL, gR_pD, gR_pR, gR_pnw, gR_pcp, gz_pI, gz_pL, gz_pD, gz_pR, gz_pnw, gz_pcp]; exact gi k hk
    rw [g1, g2]
    refine ⟨fun h => by omega, fun _ => ⟨by omega, by omega, fun h => ?_, fun h => ?_⟩⟩
    · have h' : ¬ ((j : Int) - i + 2 * m) * s.2.1 < s.1 * (f j - f i) := by omega
      refine low M Ag.refl (fun _ _ => rfl) ?_ ?_ ?_ g4 g5 ?_
      · unfold pr; dsimp only; rw [if_neg h']; exact g1
      · unfold pr; dsimp only; rw [if_neg h']; exact g2
      · unfold pr; dsimp only; rw [if_neg h']; exact g3
      · unfold pr; dsimp only; rw [if_neg h']; exact hp1
    · rintro M1 rfl M2 rfl M3 rfl
      refine low _ ((((Ag.refl (S := (· = 69))).pL rfl).pL rfl).pI rfl) (fun k hk => by simp [gI_pI, gI_pL, gI_pD, gI_pR, gI_pnw, gI_pcp, gL_pI, gL_pL, gL_pD, gL_pR, gL_pnw, gL_pcp, gD_pI, gD_pL, gD_pD, gD_pR, gD_pnw, gD_pcp, gR_pI, gR_pL, gR_pD, gR_pR, gR_pnw, gR_pcp, gz_pI, gz_pL, gz_pD, gz_pR, gz_pnw, gz_pcp, hk]) ?_ ?_ ?_ (by simp [gI_pI, gI_pL, gI_pD, gI_pR, gI_pnw, gI_pcp, gL_pI, gL_pL, gL_pD, gL_pR, gL_pnw, gL_pcp, gD_pI, gD_pL, gD_pD, gD_pR, gD_pnw, gD_pcp, gR_pI, gR_pL, gR_pD, gR_pR, gR_pnw, gR_pcp, gz_pI, gz_pL, gz_pD, gz_pR, gz_pnw, gz_pcp, g4]) (by simp [gI_pI, gI_pL, gI_pD, gI_pR, gI_pnw, gI_pcp, gL_pI, gL_pL, gL_pD, gL_pR, gL_pnw, gL_pcp, gD_pI, gD_pL, gD_pD, gD_pR, gD_pnw, gD_pcp, gR_pI, gR_pL, gR_pD, gR_pR, gR_pnw, gR_pcp, gz_pI, gz_pL, gz_pD, gz_pR, gz_pnw, gz_pcp, g5]) ?_
      · unfold pr; dsimp only; rw [if_pos h]; simp [gI_pI, gI_pL, gI_pD, gI_pR, gI_pnw, gI_pcp, gL_pI, gL_pL, gL_pD, gL_pR, gL_pnw, gL_pcp, gD_pI, gD_pL, gD_pD, gD_pR, gD_pnw, gD_pcp, gR_pI, gR_pL, gR_pD, gR_pR, gR_pnw, gR_pcp, gz_pI, gz_pL, gz_pD, gz_pR, gz_pnw, gz_pcp]
      · unfold pr; dsimp only; rw [if_pos h]; simp [gI_pI, gI_pL, gI_pD, gI_pR, gI_pnw, gI_pcp, gL_pI, gL_pL, gL_pD, gL_pR, gL_pnw, gL_pcp, gD_pI, gD_pL, gD_pD, gD_pR, gD_pnw, gD_pcp, gR_pI, gR_pL, gR_pD, gR_pR, gR_pnw, gR_pcp, gz_pI, gz_pL, gz_pD, gz_pR, gz_pnw, gz_pcp]
      · unfold pr; dsimp only; rw [if_pos h]; simp [gI_pI, gI_pL, gI_pD, gI_pR, gI_pnw, gI_pcp, gL_pI, gL_pL, gL_pD, gL_pR, gL_pnw, gL_pcp, gD_pI, gD_pL, gD_pD, gD_pR, gD_pnw, gD_pcp, gR_pI, gR_pL, gR_pD, gR_pR, gR_pnw, gR_pcp, gz_pI, gz_pL, gz_pD, gz_pR, gz_pnw, gz_pcp]; omega
      · unfold pr; dsimp only; rw [if_pos h]; omega
