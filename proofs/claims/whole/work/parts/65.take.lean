/-! ===== takeOver: pieces of another tier come behind ===== -/
theorem c_beLike {M : Im} {a b : Nat} {Q : Im → Prop} (hO : iO M a 0) (hO' : iO M b 0) (hne : b ≠ a) (hQ : ∀ M', Ag (· = a) M M' → gI M' a 0 = gI M b 0 → gI M' a 1 = gI M b 1 → (∀ j, 2 ≤ j → gI M' a j = gI M a j) → gL M' a 6 = gL M b 6 → gL M' a 7 = gL M b 7 → gL M' a 8 = gL M b 8 → gD M' a 9 = gD M b 9 → gD M' a 10 = gD M b 10 → Q M') : sp_X0_beLike a (some b) M Q := by
  unfold sp_X0_beLike
  refine ⟨hO, b, rfl, hO', ?_⟩
  rintro M2 rfl M3 rfl M4 rfl M5 rfl M6 rfl M7 rfl M8 rfl
  have n : ∀ x y : Nat, ¬ (b = a ∧ x = y) := fun x y w => hne w.1
  refine hQ _ ((((((((Ag.refl (S := (· = a))).pI rfl).pI rfl).pL rfl).pL rfl).pL rfl).pD rfl).pD rfl) ?_ ?_ (fun j hj => ?_) ?_ ?_ ?_ ?_ ?_
  · simp [gI_pI, gI_pL, gI_pD, gI_pR, gI_pnw, gI_pcp, gL_pI, gL_pL, gL_pD, gL_pR, gL_pnw, gL_pcp, gD_pI, gD_pL, gD_pD, gD_pR, gD_pnw, gD_pcp, gR_pI, gR_pL, gR_pD, gR_pR, gR_pnw, gR_pcp, gz_pI, gz_pL, gz_pD, gz_pR, gz_pnw, gz_pcp]
  · simp [gI_pI, gI_pL, gI_pD, gI_pR, gI_pnw, gI_pcp, gL_pI, gL_pL, gL_pD, gL_pR, gL_pnw, gL_pcp, gD_pI, gD_pL, gD_pD, gD_pR, gD_pnw, gD_pcp, gR_pI, gR_pL, gR_pD, gR_pR, gR_pnw, gR_pcp, gz_pI, gz_pL, gz_pD, gz_pR, gz_pnw, gz_pcp, hne]
  · simp only [gI_pI, gI_pL, gI_pD, gI_pR, gI_pnw, gI_pcp, gL_pI, gL_pL, gL_pD, gL_pR, gL_pnw, gL_pcp, gD_pI, gD_pL, gD_pD, gD_pR, gD_pnw, gD_pcp, gR_pI, gR_pL, gR_pD, gR_pR, gR_pnw, gR_pcp, gz_pI, gz_pL, gz_pD, gz_pR, gz_pnw, gz_pcp]; rw [if_neg (by omega), if_neg (by omega)]
  · simp [gI_pI, gI_pL, gI_pD, gI_pR, gI_pnw, gI_pcp, gL_pI, gL_pL, gL_pD, gL_pR, gL_pnw, gL_pcp, gD_pI, gD_pL, gD_pD, gD_pR, gD_pnw, gD_pcp, gR_pI, gR_pL, gR_pD, gR_pR, gR_pnw, gR_pcp, gz_pI, gz_pL, gz_pD, gz_pR, gz_pnw, gz_pcp]
  · simp [gI_pI, gI_pL, gI_pD, gI_pR, gI_pnw, gI_pcp, gL_pI, gL_pL, gL_pD, gL_pR, gL_pnw, gL_pcp, gD_pI, gD_pL, gD_pD, gD_pR, gD_pnw, gD_pcp, gR_pI, gR_pL, gR_pD, gR_pR, gR_pnw, gR_pcp, gz_pI, gz_pL, gz_pD, gz_pR, gz_pnw, gz_pcp, hne]
  · simp [gI_pI, gI_pL, gI_pD, gI_pR, gI_pnw, gI_pcp, gL_pI, gL_pL, gL_pD, gL_pR, gL_pnw, gL_pcp, gD_pI, gD_pL, gD_pD, gD_pR, gD_pnw, gD_pcp, gR_pI, gR_pL, gR_pD, gR_pR, gR_pnw, gR_pcp, gz_pI, gz_pL, gz_pD, gz_pR, gz_pnw, gz_pcp, hne]
  · simp [gI_pI, gI_pL, gI_pD, gI_pR, gI_pnw, gI_pcp, gL_pI, gL_pL, gL_pD, gL_pR, gL_pnw, gL_pcp, gD_pI, gD_pL, gD_pD, gD_pR, gD_pnw, gD_pcp, gR_pI, gR_pL, gR_pD, gR_pR, gR_pnw, gR_pcp, gz_pI, gz_pL, gz_pD, gz_pR, gz_pnw, gz_pcp, hne]
  · simp [gI_pI, gI_pL, gI_pD, gI_pR, gI_pnw, gI_pcp, gL_pI, gL_pL, gL_pD, gL_pR, gL_pnw, gL_pcp, gD_pI, gD_pL, gD_pD, gD_pR, gD_pnw, gD_pcp, gR_pI, gR_pL, gR_pD, gR_pR, gR_pnw, gR_pcp, gz_pI, gz_pL, gz_pD, gz_pR, gz_pnw, gz_pcp, hne]
theorem c_takeOver_67 {t u a b st sl N : Nat} {q : Pc} {K : Nat} {x3 x4 : Int} {Q : Im → Prop} {K104 : Nat → Nat → Int → Int → Nat → Nat → Im → Prop} (ht : t ∈ TL) (hu : u ∈ TL) (hut : u ≠ t) (ha : 97 ≤ a) (hb : 97 ≤ b) (hKn : K + (pks q).length ≤ cap t) (hN : N ≤ cap u) (hst : st + (pks q).length ≤ N) (hd : ∀ i, i < (pks q).length → df q i = 0 ∨ df q i = 1) :
    ∀ (d i : Nat) {M : Im}, i + d = (pks q).length → K0 ≤ gz M → b < gz M → PR M u b st sl q → gI M u 4 = (N : Nat) → gI M a 2 = (K : Nat) →
    (∀ M', Ag (· = t + 2) M M' → (∀ j, i ≤ j → j < (pks q).length → gI M' (t + 2) (K + j) = df q j) → (∀ j, j < K + i → gI M' (t + 2) j = gI M (t + 2) j) → K104 t u x3 x4 b a M') →
    sp_X2_takeOver_67 (d + 1) t u x3 x4 b a i M Q K104
  | 0, i, M, h, hk, hbz, hPR, h4, h2, hQ => by
    unfold sp_X2_takeOver_67
    rw [hPR.1.2.2.2.1]
    exact ⟨iO_hi hb hbz, fun _ => hQ M Ag.refl (fun j h1 h2 => by omega) (fun j _ => rfl), fun h => by omega⟩
  | d + 1, i, M, h, hk, hbz, hPR, h4, h2, hQ => by
    have hcap := TL_cap ht
    have ft := TL_facts t ht
    have fu := TL_facts u hu
    obtain ⟨-, -, -, -, -, ft1, ft2, -, -, -, ft3, ft4, ft5⟩ := ft
    obtain ⟨-, -, -, -, -, fu1, fu2, -, -, -, fu3, fu4, fu5⟩ := fu
    unfold sp_X2_takeOver_67
    rw [hPR.1.2.2.2.1]
    refine ⟨iO_hi hb hbz, fun h => by omega, fun _ => ?_⟩
    refine c_isDropped hk hu hb hbz hPR h4 hst hN (by omega) (hd i (by omega)) ?_
    rw [h2, TL_l2 ht, show ((K : Nat) + (i : Nat) : Int).toNat = K + i by omega]
    refine ⟨by omega, by omega, hd i (by omega), by omega, ?_⟩
    rintro M15 rfl
    refine ⟨by omega, ?_⟩
    rintro i16 rfl
    have g : Ag (· = t + 2) M (pI M (t + 2) (K + i) (df q i)) := (Ag.refl (S := (· = t + 2))).pI rfl
    refine c_takeOver_67 ht hu hut ha hb hKn hN hst hd d (i + 1) (by omega) (g.k0 hk) (by rw [g.1]; exact hbz) (hPR.frame (fun j => g.I (by omega) j) (fun j => g.L (by omega) j) (fun j => g.D (by omega) j) (fun i _ => g.L (by omega) i) (fun i _ => g.I (by omega) i) (fun i _ => g.L (by omega) i)) (by rw [g.I (by omega)]; exact h4) (by rw [g.I (by omega)]; exact h2) fun M' g2 h1 h2' => hQ M' (g.trans g2) (fun j hj1 hj2 => ?_) (fun j hj => ?_)
    · by_cases e : j = i
      · subst e
        rw [h2' (K + j) (by omega)]
        simp [gI_pI, gI_pL, gI_pD, gI_pR, gI_pnw, gI_pcp, gL_pI, gL_pL, gL_pD, gL_pR, gL_pnw, gL_pcp, gD_pI, gD_pL, gD_pD, gD_pR, gD_pnw, gD_pcp, gR_pI, gR_pL, gR_pD, gR_pR, gR_pnw, gR_pcp, gz_pI, gz_pL, gz_pD, gz_pR, gz_pnw, gz_pcp]
      · exact h1 j (by omega) hj2
    · rw [h2' j (by omega)]
      simp only [gI_pI, gI_pL, gI_pD, gI_pR, gI_pnw, gI_pcp, gL_pI, gL_pL, gL_pD, gL_pR, gL_pnw, gL_pcp, gD_pI, gD_pL, gD_pD, gD_pR, gD_pnw, gD_pcp, gR_pI, gR_pL, gR_pD, gR_pR, gR_pnw, gR_pcp, gz_pI, gz_pL, gz_pD, gz_pR, gz_pnw, gz_pcp]
      rw [if_neg (by omega)]
theorem c_takeOver_107 {t u a b st sl N T : Nat} {q : Pc} {x3 x4 : Int} {Q : Im → Prop} {K173 : Nat → Nat → Int → Int → Im → Prop} (ht : t ∈ TL) (hu : u ∈ TL) (hut : u ≠ t) (ha : 97 ≤ a) (hb : 97 ≤ b) (hab : a ≠ b) (hTn : T + (plt q).length ≤ alen (t + 3)) (hN : N ≤ alen (u + 3)) (hsl : sl + (plt q).length ≤ N) :
    ∀ (d i : Nat) {M : Im}, i + d = (plt q).length → K0 ≤ gz M → b < gz M → PR M u b st sl q → gI M u 5 = (N : Nat) → gI M t 5 = ((T + i : Nat) : Int) → gI M a 5 = (i : Nat) →
    (∀ M', Ag (fun x => x = t ∨ x = t + 3 ∨ x = a) M M' → (∀ j, i ≤ j → j < (plt q).length → gL M' (t + 3) (T + j) = tf q j) → (∀ j, j < T + i → gL M' (t + 3) j = gL M (t + 3) j) → gI M' t 5 = ((T + (plt q).length : Nat) : Int) → gI M' a 5 = ((plt q).length : Nat) → (∀ j, j ≠ 5 → gI M' t j = gI M t j ∧ gI M' a j = gI M a j) → (∀ j, gL M' a j = gL M a j ∧ gD M' a j = gD M a j) → K173 t u x3 x4 M') →
    sp_X2_takeOver_107 (d + 1) t u x3 x4 b a i M Q K173
  | 0, i, M, h, hk, hbz, hPR, h5, ht5, ha5, hQ => by
    unfold sp_X2_takeOver_107
    rw [hPR.1.2.2.2.2.2]
    refine ⟨fun _ => hQ M Ag.refl (fun j h1 h2 => by omega) (fun j _ => rfl) ?_ ?_ (fun j _ => ⟨rfl, rfl⟩) (fun j => ⟨rfl, rfl⟩), fun h => by omega⟩
    · rw [ht5]; omega
    · rw [ha5]; omega
  | d + 1, i, M, h, hk, hbz, hPR, h5, ht5, ha5, hQ => by
    have ft := TL_facts t ht
    have fu := TL_facts u hu
    obtain ⟨-, -, -, -, -, ft1, ft2, -, ft0, -, ft3, ft4, ft5⟩ := ft
    obtain ⟨-, -, -, -, -, fu1, fu2, -, -, -, fu3, fu4, fu5⟩ := fu
    unfold sp_X2_takeOver_107
    rw [hPR.1.2.2.2.2.2, ht5]
    refine ⟨fun h => by omega, fun _ => ⟨fun h => by omega, fun _ => ?_⟩⟩
    refine c_lateOf hk hu hb hbz hPR h5 hsl hN (fun j hj hj2 => ?_) (fun h => absurd (by omega) h)
    obtain rfl : j = i := by omega
    rw [show (((T + j : Nat) : Int)).toNat = T + j by omega]
    refine ⟨by omega, ?_⟩
    rintro M19 rfl
    simp only [gI_pI, gI_pL, gI_pD, gI_pR, gI_pnw, gI_pcp, gL_pI, gL_pL, gL_pD, gL_pR, gL_pnw, gL_pcp, gD_pI, gD_pL, gD_pD, gD_pR, gD_pnw, gD_pcp, gR_pI, gR_pL, gR_pD, gR_pR, gR_pnw, gR_pcp, gz_pI, gz_pL, gz_pD, gz_pR, gz_pnw, gz_pcp, ht5]
    refine ⟨by omega, ?_⟩
    rintro M20 rfl
    simp only [gI_pI, gI_pL, gI_pD, gI_pR, gI_pnw, gI_pcp, gL_pI, gL_pL, gL_pD, gL_pR, gL_pnw, gL_pcp, gD_pI, gD_pL, gD_pD, gD_pR, gD_pnw, gD_pcp, gR_pI, gR_pL, gR_pD, gR_pR, gR_pnw, gR_pcp, gz_pI, gz_pL, gz_pD, gz_pR, gz_pnw, gz_pcp, if_neg (show ¬ (a = t ∧ (5 : Nat) = 5) by omega), ha5]
    have hat : ¬ a = t := by omega
    simp only [hat, false_and, if_false]
    refine ⟨by omega, ?_⟩
    rintro M21 rfl
    refine ⟨by omega, ?_⟩
    rintro i22 rfl
    have g : Ag (fun x => x = t ∨ x = t + 3 ∨ x = a) M (pI (pI (pL M (t + 3) (T + j) (tf q j)) t 5 (((T + j : Nat) : Int) + 1)) a 5 ((j : Int) + 1)) := (((Ag.refl (S := fun x => x = t ∨ x = t + 3 ∨ x = a)).pL (Or.inr (Or.inl rfl))).pI (Or.inl rfl)).pI (Or.inr (Or.inr rfl))
    have hta : ¬ t = a := by omega
    have r1 : gI (pI (pI (pL M (t + 3) (T + j) (tf q j)) t 5 (((T + j : Nat) : Int) + 1)) a 5 ((j : Int) + 1)) t 5 = ((T + (j + 1) : Nat) : Int) := by simp [gI_pI, gI_pL, gI_pD, gI_pR, gI_pnw, gI_pcp, gL_pI, gL_pL, gL_pD, gL_pR, gL_pnw, gL_pcp, gD_pI, gD_pL, gD_pD, gD_pR, gD_pnw, gD_pcp, gR_pI, gR_pL, gR_pD, gR_pR, gR_pnw, gR_pcp, gz_pI, gz_pL, gz_pD, gz_pR, gz_pnw, gz_pcp, hta]; omega
    have r2 : gI (pI (pI (pL M (t + 3) (T + j) (tf q j)) t 5 (((T + j : Nat) : Int) + 1)) a 5 ((j : Int) + 1)) a 5 = ((j + 1 : Nat) : Int) := by simp [gI_pI, gI_pL, gI_pD, gI_pR, gI_pnw, gI_pcp, gL_pI, gL_pL, gL_pD, gL_pR, gL_pnw, gL_pcp, gD_pI, gD_pL, gD_pD, gD_pR, gD_pnw, gD_pcp, gR_pI, gR_pL, gR_pD, gR_pR, gR_pnw, gR_pcp, gz_pI, gz_pL, gz_pD, gz_pR, gz_pnw, gz_pcp]
    have r3 : ∀ k, k ≠ 5 → gI (pI (pI (pL M (t + 3) (T + j) (tf q j)) t 5 (((T + j : Nat) : Int) + 1)) a 5 ((j : Int) + 1)) t k = gI M t k ∧ gI (pI (pI (pL M (t + 3) (T + j) (tf q j)) t 5 (((T + j : Nat) : Int) + 1)) a 5 ((j : Int) + 1)) a k = gI M a k := fun k hk => by simp [gI_pI, gI_pL, gI_pD, gI_pR, gI_pnw, gI_pcp, gL_pI, gL_pL, gL_pD, gL_pR, gL_pnw, gL_pcp, gD_pI, gD_pL, gD_pD, gD_pR, gD_pnw, gD_pcp, gR_pI, gR_pL, gR_pD, gR_pR, gR_pnw, gR_pcp, gz_pI, gz_pL, gz_pD, gz_pR, gz_pnw, gz_pcp, hk]
    have r4 : ∀ k, gL (pI (pI (pL M (t + 3) (T + j) (tf q j)) t 5 (((T + j : Nat) : Int) + 1)) a 5 ((j : Int) + 1)) (t + 3) k = if k = T + j then tf q j else gL M (t + 3) k := fun k => by simp [gI_pI, gI_pL, gI_pD, gI_pR, gI_pnw, gI_pcp, gL_pI, gL_pL, gL_pD, gL_pR, gL_pnw, gL_pcp, gD_pI, gD_pL, gD_pD, gD_pR, gD_pnw, gD_pcp, gR_pI, gR_pL, gR_pD, gR_pR, gR_pnw, gR_pcp, gz_pI, gz_pL, gz_pD, gz_pR, gz_pnw, gz_pcp]
    have r5 : ∀ k, gL (pI (pI (pL M (t + 3) (T + j) (tf q j)) t 5 (((T + j : Nat) : Int) + 1)) a 5 ((j : Int) + 1)) a k = gL M a k ∧ gD (pI (pI (pL M (t + 3) (T + j) (tf q j)) t 5 (((T + j : Nat) : Int) + 1)) a 5 ((j : Int) + 1)) a k = gD M a k := fun k => by
      simp only [gI_pI, gI_pL, gI_pD, gI_pR, gI_pnw, gI_pcp, gL_pI, gL_pL, gL_pD, gL_pR, gL_pnw, gL_pcp, gD_pI, gD_pL, gD_pD, gD_pR, gD_pnw, gD_pcp, gR_pI, gR_pL, gR_pD, gR_pR, gR_pnw, gR_pcp, gz_pI, gz_pL, gz_pD, gz_pR, gz_pnw, gz_pcp, and_true]; rw [if_neg (by omega)]
    generalize pI (pI (pL M (t + 3) (T + j) (tf q j)) t 5 (((T + j : Nat) : Int) + 1)) a 5 ((j : Int) + 1) = M1 at g r1 r2 r3 r4 r5
    have e3 : (j : Int) + 1 = ((j + 1 : Nat) : Int) := by omega
    rw [e3]
    refine c_takeOver_107 ht hu hut ha hb hab hTn hN hsl d (j + 1) (by omega) (g.k0 hk) (by rw [g.1]; exact hbz) (hPR.frame (fun j => g.I (by omega) j) (fun j => g.L (by omega) j) (fun j => g.D (by omega) j) (fun i _ => g.L (by omega) i) (fun i _ => g.I (by omega) i) (fun i _ => g.L (by omega) i)) (by rw [g.I (by omega)]; exact h5) r1 r2 fun M' g2 h1 h2 h3 h4 h5' h6 => hQ M' (g.trans g2) (fun k hk1 hk2 => ?_) (fun k hk => ?_) h3 h4 (fun k hk => ⟨(h5' k hk).1.trans (r3 k hk).1, (h5' k hk).2.trans (r3 k hk).2⟩) (fun k => ⟨(h6 k).1.trans (r5 k).1, (h6 k).2.trans (r5 k).2⟩)
    · by_cases e : k = j
      · subst e
        rw [h2 (T + k) (by omega), r4, if_pos rfl]
      · exact h1 k (by omega) hk2
    · rw [h2 k (by omega), r4, if_neg (by omega)]
