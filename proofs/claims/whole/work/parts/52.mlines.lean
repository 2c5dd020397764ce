/-! ===== the model's lines ===== -/
def keep69 (M M' : Im) : Prop := ∀ k, k ≠ 8 → gI M' 69 k = gI M 69 k
theorem keep69.refl {M : Im} : keep69 M M := fun _ _ => rfl
theorem keep69.trans {M M' M'' : Im} (h : keep69 M M') (h' : keep69 M' M'') : keep69 M M'' := fun k hk => (h' k hk).trans (h k hk)
theorem d_fits {M : Im} {off : Int} {s : St} {Q : Int → Im → Prop} (hk : K0 ≤ gz M) (hs : ModIs off M s) (hb : StB s) (h1 : fitS s → Q 1 M) (h0 : ¬ fitS s → Q 0 M) : sp_X5_fits 69 M Q := by
  unfold sp_X5_fits
  refine ⟨iO_c hk (by decide) rfl, ?_⟩
  rcases hs with ⟨g1, g2, rfl⟩ | ⟨hp1, hp2, g1, g2, g3, g4, g5⟩
  · exact ⟨fun _ => ⟨Or.inr rfl, h1 (by unfold fitS s0; dsimp only; omega)⟩, fun h => absurd g1 h⟩
  · unfold StB at hb
    have q1 := mul_bd (a := s.1) (b := s.2.2.2.2) (A := 3000) (B := 2000000000000) (by omega) (by omega) (by omega) (by omega)
    have q2 := mul_bd (a := s.2.2.2.1) (b := s.2.1) (A := 3000) (B := 2000000000000) (by omega) (by omega) (by omega) (by omega)
    unfold fitS at h1 h0
    rw [g1, g2, g4, g5]
    exact ⟨fun h => by omega, fun _ => ⟨by omega, by omega, fun h => ⟨Or.inl rfl, h0 (by omega)⟩, fun h => ⟨Or.inr rfl, h1 h⟩⟩⟩
theorem d_spanEnd_32 {off n : Nat} {m : Int} {f : Nat → Int} {j : Nat} {e : Int} {Q : Int → Im → Prop} {K : Nat → Int → Int → Int → Int → Im → Prop} {s : St} (hjn : j < n) (hn : n ≤ 600) (hoff : off + n ≤ 5000) (hm : 0 ≤ m ∧ m ≤ 40) (hf : okF f n) (hb0 : StB s) :
    ∀ (d i : Nat) {M : Im}, i + d = j → K0 ≤ gz M → (∀ k, k < n → gL M 71 (off + k) = f k) → ModIs off M (rowF m f j i s) → (∀ M', Ag (· = 69) M M' → keep69 M M' → ModIs off M' (rowF m f j j s) → K 69 off e m ((off : Int) + j) M') →
    sp_X5_spanEnd_32 (d + 1) 69 off e m ((off : Int) + j) ((off : Int) + i) M Q K
  | 0, i, M, hd, hk, hfi, hs, hQ => by
    obtain rfl : i = j := by omega
    unfold sp_X5_spanEnd_32
    exact ⟨fun _ => hQ M Ag.refl keep69.refl hs, fun h => by omega⟩
  | d + 1, i, M, hd, hk, hfi, hs, hQ => by
    unfold sp_X5_spanEnd_32
    refine ⟨fun h => by omega, fun _ => ?_⟩
    refine d_pair hk (by omega) hjn hn hoff hm hf hfi hs (StB_rowF hb0 hf hjn hn hm i (by omega)) fun M1 g1 hs1 gk => ⟨by omega, ?_⟩
    rintro i2 rfl
    refine d_spanEnd_32 hjn hn hoff hm hf hb0 d (i + 1) (by omega) (g1.k0 hk) (fun k hk => by rw [g1.L (by decide)]; exact hfi k hk) hs1 fun M' g2 gk2 hs2 => hQ M' (g1.trans g2) (keep69.trans gk gk2) hs2
theorem d_spanEnd_18 {off n : Nat} {m : Int} {f : Nat → Int} {Q : Int → Im → Prop} {K : Int → Im → Prop} (hn : n ≤ 600) (hoff : off + n ≤ 5000) (hm : 0 ≤ m ∧ m ≤ 40) (hf : okF f n) :
    ∀ (d j : Nat) {M : Im}, j + d = n → 1 ≤ j → K0 ≤ gz M → (∀ k, k < n → gL M 71 (off + k) = f k) → ModIs off M (allF m f (j - 1)) → (∀ M', Ag (· = 69) M M' → keep69 M M' → K ((off : Int) + (spanGo m f n d j : Nat)) M') →
    sp_X5_spanEnd_18 (d + 2) 69 off ((off : Int) + n) m ((off : Int) + j) 1 M Q K
  | 0, j, M, hd, hj, hk, hfi, hs, hQ => by
    obtain rfl : j = n := by omega
    unfold sp_X5_spanEnd_18
    exact ⟨fun _ => hQ M Ag.refl keep69.refl, fun h => by omega⟩
  | d + 1, j, M, hd, hj, hk, hfi, hs, hQ => by
    unfold sp_X5_spanEnd_18
    refine ⟨fun h => by omega, fun _ => ⟨fun h => by omega, fun _ => ⟨j + 1, ?_⟩⟩⟩
    have hb := StB_allF hf hn hm (j - 1) (by omega)
    obtain ⟨i, rfl⟩ : ∃ i, j = i + 1 := ⟨j - 1, by omega⟩
    have e : allF m f (i + 1) = rowF m f (i + 1) (i + 1) (allF m f i) := rfl
    have z : (off : Int) = (off : Int) + ((0 : Nat) : Int) := by omega
    have key := d_spanEnd_32 (e := (off : Int) + n) (Q := Q) (K := (fun (x0 : Nat) (x1 : Int) (x2 : Int) (x3 : Int) (x4 : Int) (M : Im) =>
      sp_X5_spanEnd_55 x0 x1 x2 x3 x4 M Q (fun (x0 : Nat) (x1 : Int) (x2 : Int) (x3 : Int) (x4 : Int) (x5 : Int) (M : Im) => sp_X5_spanEnd_18 (d + 2) x0 x1 x2 x3 x4 x5 M Q K) K)) (show i + 1 < n by omega) hn hoff hm hf hb (i + 1) 0 (by omega) hk hfi hs
    rw [← z] at key
    refine key fun M1 g1 gk hs1 => ?_
    unfold sp_X5_spanEnd_55
    refine d_fits (g1.k0 hk) hs1 (StB_rowF hb hf (by omega) hn hm (i + 1) (Nat.le_refl _)) (fun hfit => ⟨fun h => by omega, fun _ => ?_⟩) (fun hfit => ⟨fun _ => ?_, fun h => absurd rfl h⟩)
    · unfold sp_X5_spanEnd_73
      refine ⟨by omega, ?_⟩
      rintro i5 rfl
      have e2 : spanGo m f n (d + 1) (i + 1) = spanGo m f n d (i + 1 + 1) := by
        rw [spanGo, if_pos ⟨by omega, by rw [e]; exact hfit⟩]
      rw [e2] at hQ
      exact d_spanEnd_18 hn hoff hm hf d (i + 1 + 1) (by omega) (by omega) (g1.k0 hk) (fun k hk => by rw [g1.L (by decide)]; exact hfi k hk) hs1 fun M' g2 gk2 => hQ M' (g1.trans g2) (gk.trans gk2)
    · unfold sp_X5_spanEnd_73
      refine ⟨by omega, ?_⟩
      rintro i5 rfl
      have e2 : spanGo m f n (d + 1) (i + 1) = i + 1 := by
        rw [spanGo, if_neg]
        intro h
        exact hfit h.2
      rw [e2] at hQ
      rw [show (off : Int) + ((i + 1 : Nat) : Int) + 0 = (off : Int) + ((i + 1 : Nat) : Int) by omega]
      unfold sp_X5_spanEnd_18
      exact ⟨fun _ => hQ M1 g1 gk, fun _ => ⟨fun _ => hQ M1 g1 gk, fun h => absurd rfl h⟩⟩
theorem d_spanEnd {M : Im} {off n : Nat} {m : Int} {f : Nat → Int} {Q : Int → Im → Prop} (hk : K0 ≤ gz M) (hn0 : 0 < n) (hn : n ≤ 600) (hoff : off + n ≤ 5000) (hm : 0 ≤ m ∧ m ≤ 40) (hf : okF f n)
    (hfi : ∀ k, k < n → gL M 71 (off + k) = f k) (hQ : ∀ M', Ag (· = 69) M M' → keep69 M M' → Q ((off : Int) + (spanLen m f n : Nat)) M') :
    sp_X5_spanEnd 69 off ((off : Int) + n) m M Q := by
  unfold sp_X5_spanEnd
  refine ⟨iO_c hk (by decide) rfl, ?_⟩
  rintro M6 rfl M7 rfl
  refine ⟨by omega, ?_⟩
  rintro i8 rfl
  refine ⟨n - 1 + 2, ?_⟩
  have g : Ag (· = 69) M (pL (pL M 69 5 0) 69 7 0) := (((Ag.refl (S := (· = 69))).pL rfl).pL rfl)
  exact d_spanEnd_18 (Q := Q) (K := fun x5 M => Q x5 M) hn hoff hm hf (n - 1) 1 (by omega) (Nat.le_refl _) (g.k0 hk) (fun k hk => by rw [g.L (by decide)]; exact hfi k hk) (Or.inl ⟨by simp [gI_pI, gI_pL, gI_pD, gI_pR, gI_pnw, gI_pcp, gL_pI, gL_pL, gL_pD, gL_pR, gL_pnw, gL_pcp, gD_pI, gD_pL, gD_pD, gD_pR, gD_pnw, gD_pcp, gR_pI, gR_pL, gR_pD, gR_pR, gR_pnw, gR_pcp, gz_pI, gz_pL, gz_pD, gz_pR, gz_pnw, gz_pcp], by simp [gI_pI, gI_pL, gI_pD, gI_pR, gI_pnw, gI_pcp, gL_pI, gL_pL, gL_pD, gL_pR, gL_pnw, gL_pcp, gD_pI, gD_pL, gD_pD, gD_pR, gD_pnw, gD_pcp, gR_pI, gR_pL, gR_pD, gR_pR, gR_pnw, gR_pcp, gz_pI, gz_pL, gz_pD, gz_pR, gz_pnw, gz_pcp], rfl⟩) fun M' g2 gk => hQ M' (g.trans g2) (keep69.trans (fun k hk => rfl) gk)
theorem d_passed_24 {off n : Nat} {m : Int} {f : Nat → Int} {j : Nat} {e : Int} {Q : Int → Im → Prop} {K : Nat → Int → Int → Int → Int → Im → Prop} {s : St} (hjn : j < n) (hn : n ≤ 600) (hoff : off + n ≤ 5000) (hm : 0 ≤ m ∧ m ≤ 40) (hf : okF f n) (hb0 : StB s) :
    ∀ (d i : Nat) {M : Im}, i + d = j → K0 ≤ gz M → (∀ k, k < n → gL M 71 (off + k) = f k) → ModIs off M (rowF m f j i s) → (∀ M', Ag (· = 69) M M' → keep69 M M' → ModIs off M' (rowF m f j j s) → K 69 off e m ((off : Int) + j) M') →
    sp_X5_passed_24 (d + 1) 69 off e m ((off : Int) + j) ((off : Int) + i) M Q K
  | 0, i, M, hd, hk, hfi, hs, hQ => by
    obtain rfl : i = j := by omega
    unfold sp_X5_passed_24
    exact ⟨fun _ => hQ M Ag.refl keep69.refl hs, fun h => by omega⟩
  | d + 1, i, M, hd, hk, hfi, hs, hQ => by
    unfold sp_X5_passed_24
    refine ⟨fun h => by omega, fun _ => ?_⟩
    refine d_pair hk (by omega) hjn hn hoff hm hf hfi hs (StB_rowF hb0 hf hjn hn hm i (by omega)) fun M1 g1 hs1 gk => ⟨by omega, ?_⟩
    rintro i2 rfl
    refine d_passed_24 hjn hn hoff hm hf hb0 d (i + 1) (by omega) (g1.k0 hk) (fun k hk => by rw [g1.L (by decide)]; exact hfi k hk) hs1 fun M' g2 gk2 hs2 => hQ M' (g1.trans g2) (keep69.trans gk gk2) hs2
theorem d_passed_15 {off n : Nat} {m : Int} {f : Nat → Int} {Q : Int → Im → Prop} {K : Nat → Im → Prop} (hn : n ≤ 600) (hoff : off + n ≤ 5000) (hm : 0 ≤ m ∧ m ≤ 40) (hf : okF f n) :
    ∀ (d j : Nat) {M : Im}, j + d = n → 1 ≤ j → K0 ≤ gz M → (∀ k, k < n → gL M 71 (off + k) = f k) → ModIs off M (allF m f (j - 1)) → (∀ M', Ag (· = 69) M M' → keep69 M M' → ModIs off M' (allF m f (n - 1)) → K 69 M') →
    sp_X5_passed_15 (d + 1) 69 off ((off : Int) + n) m ((off : Int) + j) M Q K
  | 0, j, M, hd, hj, hk, hfi, hs, hQ => by
    obtain rfl : j = n := by omega
    unfold sp_X5_passed_15
    exact ⟨fun _ => hQ M Ag.refl keep69.refl hs, fun h => by omega⟩
  | d + 1, j, M, hd, hj, hk, hfi, hs, hQ => by
    unfold sp_X5_passed_15
    refine ⟨fun h => by omega, fun _ => ⟨j + 1, ?_⟩⟩
    have hb := StB_allF hf hn hm (j - 1) (by omega)
    obtain ⟨i, rfl⟩ : ∃ i, j = i + 1 := ⟨j - 1, by omega⟩
    have z : (off : Int) = (off : Int) + ((0 : Nat) : Int) := by omega
    have key := d_passed_24 (e := (off : Int) + n) (Q := Q) (K := (fun (x0 : Nat) (x1 : Int) (x2 : Int) (x3 : Int) (x4 : Int) (M : Im) =>
      sp_X5_passed_47 x0 x1 x2 x3 x4 M Q (fun (x0 : Nat) (x1 : Int) (x2 : Int) (x3 : Int) (x4 : Int) (M : Im) => sp_X5_passed_15 (d + 1) x0 x1 x2 x3 x4 M Q K) K)) (show i + 1 < n by omega) hn hoff hm hf hb (i + 1) 0 (by omega) hk hfi hs
    rw [← z] at key
    refine key fun M1 g1 gk hs1 => ?_
    unfold sp_X5_passed_47
    refine ⟨by omega, ?_⟩
    rintro i3 rfl
    exact d_passed_15 hn hoff hm hf d (i + 1 + 1) (by omega) (by omega) (g1.k0 hk) (fun k hk => by rw [g1.L (by decide)]; exact hfi k hk) hs1 fun M' g2 gk2 => hQ M' (g1.trans g2) (gk.trans gk2)
theorem d_passed {M : Im} {off n : Nat} {m : Int} {f : Nat → Int} {Q : Int → Im → Prop} (hk : K0 ≤ gz M) (hn0 : 0 < n) (hn : n ≤ 600) (hoff : off + n ≤ 5000) (hm : 0 ≤ m ∧ m ≤ 40) (hf : okF f n)
    (hfi : ∀ k, k < n → gL M 71 (off + k) = f k) (hQ : ∀ r M', Ag (· = 69) M M' → keep69 M M' → ModIs off M' (allF m f (n - 1)) → Q r M') :
    sp_X5_passed 69 off ((off : Int) + n) m M Q := by
  unfold sp_X5_passed
  refine ⟨iO_c hk (by decide) rfl, ?_⟩
  rintro M6 rfl M7 rfl
  refine ⟨by omega, ?_⟩
  rintro i8 rfl
  refine ⟨n - 1 + 1, ?_⟩
  have g : Ag (· = 69) M (pL (pL M 69 5 0) 69 7 0) := (((Ag.refl (S := (· = 69))).pL rfl).pL rfl)
  refine d_passed_15 (Q := Q) hn hoff hm hf (n - 1) 1 (by omega) (Nat.le_refl _) (g.k0 hk) (fun k hk => by rw [g.L (by decide)]; exact hfi k hk) (Or.inl ⟨by simp [gI_pI, gI_pL, gI_pD, gI_pR, gI_pnw, gI_pcp, gL_pI, gL_pL, gL_pD, gL_pR, gL_pnw, gL_pcp, gD_pI, gD_pL, gD_pD, gD_pR, gD_pnw, gD_pcp, gR_pI, gR_pL, gR_pD, gR_pR, gR_pnw, gR_pcp, gz_pI, gz_pL, gz_pD, gz_pR, gz_pnw, gz_pcp], by simp [gI_pI, gI_pL, gI_pD, gI_pR, gI_pnw, gI_pcp, gL_pI, gL_pL, gL_pD, gL_pR, gL_pnw, gL_pcp, gD_pI, gD_pL, gD_pD, gD_pR, gD_pnw, gD_pcp, gR_pI, gR_pL, gR_pD, gR_pR, gR_pnw, gR_pcp, gz_pI, gz_pL, gz_pD, gz_pR, gz_pnw, gz_pcp], rfl⟩) fun M' g2 gk hs => ?_
  have hA := hQ
  exact d_fits (g2.k0 (g.k0 hk)) hs (StB_allF hf hn hm (n - 1) (by omega)) (fun _ => ⟨Or.inr rfl, hQ 1 M' (g.trans g2) (keep69.trans (fun k hk => rfl) gk) hs⟩) (fun _ => ⟨Or.inl rfl, hQ 0 M' (g.trans g2) (keep69.trans (fun k hk => rfl) gk) hs⟩)
