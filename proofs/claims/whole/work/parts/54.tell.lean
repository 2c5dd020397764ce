/-! ===== the piece's line ===== -/
theorem ediv_bd {a : Int} {g : Nat} (ha : 0 ≤ a) : 0 ≤ a / (g : Int) ∧ a / (g : Int) ≤ a := by
  obtain ⟨n, rfl⟩ := Int.eq_ofNat_of_zero_le ha
  have h : ((n / g : Nat) : Int) = (n : Int) / g := by simp
  rw [← h]
  exact ⟨Int.natCast_nonneg _, Int.ofNat_le.mpr (Nat.div_le_self n g)⟩
/-- what is gathered, once a pair was: the least UPPER is there, its point is one of n -/
def UpOk (n : Nat) (s : St) : Prop := 1 ≤ s.1 ∧ 1 ≤ s.2.1 ∧ s.2.2.1 < n
theorem UpOk_pr {m : Int} {f : Nat → Int} {i j n : Nat} {s : St} (h : s = s0 ∨ UpOk n s) (hi : i < j) (hj : i < n) (hm : 0 ≤ m) (hf : f i < f j) : UpOk n (pr m f i j s) := by
  rcases h with rfl | ⟨h1, h2, h3⟩
  · rw [pr_s0 hf]; unfold UpOk; dsimp only; omega
  · unfold UpOk pr
    dsimp only
    refine ⟨?_, ?_, ?_⟩ <;> split <;> omega
theorem UpOk_rowF {m : Int} {f : Nat → Int} {j n : Nat} {s : St} (h : s = s0 ∨ UpOk n s) (hf : okF f n) (hj : j < n) (hm : 0 ≤ m) : ∀ i, i < j → UpOk n (rowF m f j (i + 1) s)
  | 0, hi => UpOk_pr h hi (Nat.lt_of_le_of_lt (Nat.zero_le _) hj) hm (hf.2 _ _ hi hj)
  | i + 1, hi => UpOk_pr (Or.inr (UpOk_rowF h hf hj hm i (by omega))) hi (by omega) hm (hf.2 _ _ hi hj)
theorem UpOk_allF {m : Int} {f : Nat → Int} {n : Nat} (hf : okF f n) (hm : 0 ≤ m) : ∀ j, j + 1 < n → UpOk n (allF m f (j + 1))
  | 0, h => UpOk_rowF (Or.inl rfl) hf h hm 0 (by omega)
  | j + 1, h => UpOk_rowF (Or.inr (UpOk_allF hf hm j (by omega))) hf h hm (j + 1) (by omega)
def LineB (l : Int × Int × Int) : Prop := 0 ≤ l.1 ∧ l.1 ≤ 3000 ∧ 0 < l.2.1 ∧ l.2.1 ≤ 2000000000000 ∧ -20000000000000000 ≤ l.2.2 ∧ l.2.2 ≤ 20000000000000000
theorem gcd_pos' {a b : Int} (h : 1 ≤ a) : 1 ≤ Nat.gcd a.toNat b.toNat := Nat.gcd_pos_of_pos_left _ (by omega)
theorem div_gcd_pos {a b : Int} (ha : 1 ≤ a) (hb : 1 ≤ b) : 1 ≤ b / (Nat.gcd a.toNat b.toNat : Nat) := by
  have h1 := Nat.gcd_dvd_right a.toNat b.toNat
  have h2 := gcd_pos' (b := b) ha
  have h3 : 0 < b.toNat / Nat.gcd a.toNat b.toNat := Nat.div_pos (Nat.le_of_dvd (by omega) h1) h2
  have h4 : ((b.toNat / Nat.gcd a.toNat b.toNat : Nat) : Int) = (b.toNat : Int) / (Nat.gcd a.toNat b.toNat : Nat) := by simp
  have h5 : (b.toNat : Int) = b := by omega
  rw [h5] at h4
  rw [← h4]
  exact Int.ofNat_le.mpr h3
theorem line_bd {m : Int} {f : Nat → Int} {s : St} {n : Nat} (hf : okF f n) (hn : n ≤ 600) (hm : 0 ≤ m ∧ m ≤ 40) (hb : StB s) (hu : UpOk n s) :
    LineB (lineOf m f s) ∧ (-20000000000000000 ≤ (s.2.1 / (Nat.gcd s.1.toNat s.2.1.toNat : Nat)) * (s.2.2.1 - m) ∧ (s.2.1 / (Nat.gcd s.1.toNat s.2.1.toNat : Nat)) * (s.2.2.1 - m) ≤ 9000000000000000) ∧
    (0 ≤ (s.1 / (Nat.gcd s.1.toNat s.2.1.toNat : Nat)) * (f s.2.2.1.toNat - f 0) ∧ (s.1 / (Nat.gcd s.1.toNat s.2.1.toNat : Nat)) * (f s.2.2.1.toNat - f 0) ≤ 6000000000000000) := by
  obtain ⟨h1, h2, h3⟩ := hu
  unfold StB at hb
  have d1 := ediv_bd (a := s.1) (g := Nat.gcd s.1.toNat s.2.1.toNat) (by omega)
  have d2 := ediv_bd (a := s.2.1) (g := Nat.gcd s.1.toNat s.2.1.toNat) (by omega)
  have d3 := div_gcd_pos h1 h2
  have k1 := hf.1 s.2.2.1.toNat (by omega)
  have k2 := hf.1 0 (by omega)
  have k3 : f 0 ≤ f s.2.2.1.toNat := by
    rcases Nat.eq_zero_or_pos s.2.2.1.toNat with h | h
    · rw [h]; exact Int.le_refl _
    · exact Int.le_of_lt (hf.2 _ _ h (by omega))
  have q1 := mul_bd (a := s.2.2.1 - m) (b := s.2.1 / (Nat.gcd s.1.toNat s.2.1.toNat : Nat)) (A := 4000) (B := 2000000000000) (by omega) (by omega) (by omega) (by omega)
  have q2 := mul_bd (a := s.1 / (Nat.gcd s.1.toNat s.2.1.toNat : Nat)) (b := f s.2.2.1.toNat - f 0) (A := 3000) (B := 2000000000000) (by omega) (by omega) (by omega) (by omega)
  have q3 : 0 ≤ (s.1 / (Nat.gcd s.1.toNat s.2.1.toNat : Nat)) * (f s.2.2.1.toNat - f 0) := Int.mul_nonneg d1.1 (by omega)
  rw [Int.mul_comm (s.2.2.1 - m)] at q1
  refine ⟨?_, by omega, by omega⟩
  unfold LineB lineOf
  dsimp only
  omega
theorem c_tellLine {M : Im} {a p off n : Nat} {m : Int} {f : Nat → Int} {s : St} {Q : Im → Prop} (hk : K0 ≤ gz M) (hA : iA M a .long) (hO : iO M p 0) (hp : p ≠ 17) (hpa : p ≠ a) (hn : n ≤ 600) (hoff : off + n ≤ alen a) (ha : alen a ≤ 600) (hm : 0 ≤ m ∧ m ≤ 40) (hf : okF f n)
    (hfi : ∀ k, k < n → gL M a (off + k) = f k) (hs : upOf off M s) (hb : StB s) (hu : UpOk n s)
    (hQ : ∀ M', Ag (· = p) M M' → (∀ j, gI M' p j = gI M p j) → (∀ j, gD M' p j = gD M p j) → gL M' p 6 = (lineOf m f s).1 → gL M' p 7 = (lineOf m f s).2.1 → gL M' p 8 = (lineOf m f s).2.2 → Q M') :
    sp_X1_tellLine 17 (some p) (some a) off m M Q := by
  obtain ⟨⟨l1, l2, l3, l4, l5, l6⟩, lb, lc⟩ := line_bd hf hn hm hb hu
  obtain ⟨g1, g2, g3⟩ := hs
  obtain ⟨h1, h2, h3⟩ := hu
  have hb' := hb
  unfold StB at hb'
  have g3 := g3 (by omega)
  have k1 := hf.1 s.2.2.1.toNat (by omega)
  have k2 := hf.1 0 (by omega)
  have e1 := hfi s.2.2.1.toNat (by omega)
  have e2 := hfi 0 (by omega)
  unfold sp_X1_tellLine
  refine ⟨iO_c hk (by decide) rfl, ?_⟩
  rw [g1, g2, show s.1 = (s.1.toNat : Int) by omega, show s.2.1 = (s.2.1.toNat : Int) by omega]
  refine c_commonDivisor (by omega) (by omega) ?_
  have hg := gcd_pos' (b := s.2.1) h1
  unfold lineOf at hQ l1 l2 l3 l4 l5 l6
  dsimp only at hQ l1 l2 l3 l4 l5 l6
  generalize Nat.gcd s.1.toNat s.2.1.toNat = g at *
  have g4 : gI M 17 4 = s.2.2.1 + off := g3
  have d1 := ediv_bd (a := s.1) (g := g) (by omega)
  have d2 := ediv_bd (a := s.2.1) (g := g) (by omega)
  have t1 : s.1.tdiv (g : Int) = s.1 / (g : Int) := Int.tdiv_eq_ediv_of_nonneg (by omega)
  have t2 : s.2.1.tdiv (g : Int) = s.2.1 / (g : Int) := Int.tdiv_eq_ediv_of_nonneg (by omega)
  refine ⟨fun h => by omega, fun _ => ⟨fun h => by omega, fun _ => ⟨fun h => by omega, fun _ => ⟨a, rfl, hA, fun _ => ⟨by omega, p, rfl, hO, ?_⟩, fun h => by omega⟩⟩⟩⟩
  rw [g1, t1]
  refine ⟨by omega, ?_⟩
  rintro M5 rfl
  refine ⟨by omega, ?_⟩
  simp only [gI_pI, gI_pL, gI_pD, gI_pR, gI_pnw, gI_pcp, gL_pI, gL_pL, gL_pD, gL_pR, gL_pnw, gL_pcp, gD_pI, gD_pL, gD_pD, gD_pR, gD_pnw, gD_pcp, gR_pI, gR_pL, gR_pD, gR_pR, gR_pnw, gR_pcp, gz_pI, gz_pL, gz_pD, gz_pR, gz_pnw, gz_pcp, if_neg (show ¬ (17 = p ∧ 3 = 6) by omega)]
  rw [g2, t2]
  refine ⟨by omega, ?_⟩
  rintro M6 rfl
  have hpn : ∀ x y : Nat, ¬ (a = p ∧ x = y) := fun x y h => hpa h.1.symm
  simp only [gI_pI, gI_pL, gI_pD, gI_pR, gI_pnw, gI_pcp, gL_pI, gL_pL, gL_pD, gL_pR, gL_pnw, gL_pcp, gD_pI, gD_pL, gD_pD, gD_pR, gD_pnw, gD_pcp, gR_pI, gR_pL, gR_pD, gR_pR, gR_pnw, gR_pcp, gz_pI, gz_pL, gz_pD, gz_pR, gz_pnw, gz_pcp, hpn, if_false, if_true, true_and, and_true, if_neg (show ¬ (6 : Nat) = 7 by omega), g4]
  rw [show (s.2.2.1 + (off : Int)).toNat = off + s.2.2.1.toNat by omega, show ((off : Int)).toNat = off + 0 by omega, e1, e2]
  refine ⟨by omega, ?_⟩
  intro j7 h7
  obtain rfl : j7 = s.2.2.1 := by omega
  refine ⟨by omega, by omega, by omega, by omega, by omega, by omega, by omega, ?_⟩
  rintro M8 rfl
  refine hQ _ ((((Ag.refl (S := (· = p))).pL rfl).pL rfl).pL rfl) (fun j => by simp only [gI_pI, gI_pL, gI_pD, gI_pR, gI_pnw, gI_pcp, gL_pI, gL_pL, gL_pD, gL_pR, gL_pnw, gL_pcp, gD_pI, gD_pL, gD_pD, gD_pR, gD_pnw, gD_pcp, gR_pI, gR_pL, gR_pD, gR_pR, gR_pnw, gR_pcp, gz_pI, gz_pL, gz_pD, gz_pR, gz_pnw, gz_pcp]) (fun j => by simp only [gI_pI, gI_pL, gI_pD, gI_pR, gI_pnw, gI_pcp, gL_pI, gL_pL, gL_pD, gL_pR, gL_pnw, gL_pcp, gD_pI, gD_pL, gD_pD, gD_pR, gD_pnw, gD_pcp, gR_pI, gR_pL, gR_pD, gR_pR, gR_pnw, gR_pcp, gz_pI, gz_pL, gz_pD, gz_pR, gz_pnw, gz_pcp]) ?_ ?_ ?_ <;> simp [gI_pI, gI_pL, gI_pD, gI_pR, gI_pnw, gI_pcp, gL_pI, gL_pL, gL_pD, gL_pR, gL_pnw, gL_pcp, gD_pI, gD_pL, gD_pD, gD_pR, gD_pnw, gD_pcp, gR_pI, gR_pL, gR_pD, gR_pR, gR_pnw, gR_pcp, gz_pI, gz_pL, gz_pD, gz_pR, gz_pnw, gz_pcp]
