/-! ===== append ===== -/
theorem c_append_128 {t src s n a K : Nat} {Q : Option Nat → Im → Prop} {K171 : Nat → Int → Nat → Im → Prop} (ht : t ∈ TL) (hKn : K + n ≤ cap t) (hs : s + n ≤ alen src) (hal : alen src ≤ 600) (hne : src ≠ t + 1) (hne2 : t ≠ src) :
    ∀ (d i : Nat) {M : Im}, i + d = n → iA M src .long → gI M t 4 = (K : Nat) →
    (∀ M', Ag (fun b => b = t + 1 ∨ b = t + 2) M M' → (∀ j, i ≤ j → j < n → gL M' (t + 1) (K + j) = gL M src (s + j) ∧ gI M' (t + 2) (K + j) = 0) → (∀ j, j < K + i → gL M' (t + 1) j = gL M (t + 1) j ∧ gI M' (t + 2) j = gI M (t + 2) j) → K171 t n a M') →
    sp_X2_append_128 (d + 1) t (some src) s n a i M Q K171
  | 0, i, M, h, hA, h4, hQ => by
    unfold sp_X2_append_128
    refine ⟨fun _ => hQ M Ag.refl (fun j h1 h2 => by omega) (fun j _ => ⟨rfl, rfl⟩), fun h => by omega⟩
  | d + 1, i, M, h, hA, h4, hQ => by
    have hc := TL_cap ht
    unfold sp_X2_append_128
    refine ⟨fun h => by omega, fun _ => ⟨src, rfl, hA, ?_⟩⟩
    rw [h4, TL_l1 ht, TL_l2 ht, show ((K : Nat) + (i : Nat) : Int).toNat = K + i by omega, show ((s : Nat) + (i : Nat) : Int).toNat = s + i by omega]
    refine ⟨by omega, by omega, by omega, by omega, by omega, by omega, ?_⟩
    rintro M14 rfl
    simp only [gI_pI, gI_pL, gI_pD, gI_pR, gI_pnw, gI_pcp, gL_pI, gL_pL, gL_pD, gL_pR, gL_pnw, gL_pcp, gD_pI, gD_pL, gD_pD, gD_pR, gD_pnw, gD_pcp, gR_pI, gR_pL, gR_pD, gR_pR, gR_pnw, gR_pcp, gz_pI, gz_pL, gz_pD, gz_pR, gz_pnw, gz_pcp, h4]
    rw [show ((K : Nat) + (i : Nat) : Int).toNat = K + i by omega]
    refine ⟨by omega, by omega, by omega, ?_⟩
    rintro M15 rfl
    refine ⟨by omega, ?_⟩
    rintro i16 rfl
    have g : Ag (fun b => b = t + 1 ∨ b = t + 2) M (pI (pL M (t + 1) (K + i) (gL M src (s + i))) (t + 2) (K + i) 0) := ((Ag.refl (S := fun b => b = t + 1 ∨ b = t + 2)).pL (Or.inl rfl)).pI (Or.inr rfl)
    refine c_append_128 ht hKn hs hal hne hne2 d (i + 1) (by omega) (g.A hA) (by rw [g.I (by omega)]; exact h4) fun M' g2 h1 h2 => hQ M' (g.trans g2) (fun j hj1 hj2 => ?_) (fun j hj => ?_)
    · by_cases e : j = i
      · subst e
        obtain ⟨e1, e2⟩ := h2 (K + j) (by omega)
        rw [e1, e2]
        simp [gI_pI, gI_pL, gI_pD, gI_pR, gI_pnw, gI_pcp, gL_pI, gL_pL, gL_pD, gL_pR, gL_pnw, gL_pcp, gD_pI, gD_pL, gD_pD, gD_pR, gD_pnw, gD_pcp, gR_pI, gR_pL, gR_pD, gR_pR, gR_pnw, gR_pcp, gz_pI, gz_pL, gz_pD, gz_pR, gz_pnw, gz_pcp]
      · obtain ⟨e1, e2⟩ := h1 j (by omega) hj2
        rw [e1, e2]
        simp only [gI_pI, gI_pL, gI_pD, gI_pR, gI_pnw, gI_pcp, gL_pI, gL_pL, gL_pD, gL_pR, gL_pnw, gL_pcp, gD_pI, gD_pL, gD_pD, gD_pR, gD_pnw, gD_pcp, gR_pI, gR_pL, gR_pD, gR_pR, gR_pnw, gR_pcp, gz_pI, gz_pL, gz_pD, gz_pR, gz_pnw, gz_pcp, if_neg (show ¬ (src = t + 1 ∧ s + j = K + i) by omega), and_self]
    · obtain ⟨e1, e2⟩ := h2 j (by omega)
      rw [e1, e2]
      simp only [gI_pI, gI_pL, gI_pD, gI_pR, gI_pnw, gI_pcp, gL_pI, gL_pL, gL_pD, gL_pR, gL_pnw, gL_pcp, gD_pI, gD_pL, gD_pD, gD_pR, gD_pnw, gD_pcp, gR_pI, gR_pL, gR_pD, gR_pR, gR_pnw, gR_pcp, gz_pI, gz_pL, gz_pD, gz_pR, gz_pnw, gz_pcp]
      rw [if_neg (by omega), if_neg (by omega)]
      exact ⟨rfl, rfl⟩
/-- what an append leaves -/
def Appd (M M' : Im) (t src s n a K T N : Nat) : Prop :=
  97 ≤ a ∧ a < gz M' ∧ AgL (fun b => b = t ∨ b = t + 1 ∨ b = t + 2 ∨ b = t + 4 ∨ b = a) M M' ∧ Pool M' ∧ gR M' (t + 4) N = some a ∧ (∀ r, r ≠ N → gR M' (t + 4) r = gR M (t + 4) r) ∧ (∀ b, gR M (t + 4) N = some b → b = a) ∧
  (gI M' t 4 = ((K + n : Nat) : Int) ∧ gI M' t 5 = (T : Nat) ∧ gI M' t 6 = ((N + 1 : Nat) : Int)) ∧ (gI M' a 2 = (K : Nat) ∧ gI M' a 3 = (n : Nat) ∧ gI M' a 4 = (T : Nat) ∧ gI M' a 5 = 0) ∧
  (∀ j, j < n → gL M' (t + 1) (K + j) = gL M src (s + j) ∧ gI M' (t + 2) (K + j) = 0) ∧ (∀ j, j < K → gL M' (t + 1) j = gL M (t + 1) j ∧ gI M' (t + 2) j = gI M (t + 2) j)
theorem c_append_84 {M : Im} {t src s n K T N a : Nat} {Q : Option Nat → Im → Prop} (hk : K0 ≤ gz M) (ht : t ∈ TL) (hpool : Pool M) (h4 : gI M t 4 = (K : Nat)) (h5 : gI M t 5 = (T : Nat)) (h6 : gI M t 6 = (N : Nat)) (hN : N < cap t) (hKn : K + n ≤ cap t)
    (hA : iA M src .long) (hs : s + n ≤ alen src) (hal : alen src ≤ 600) (hne : src ≠ t + 1) (hsr : src < 97) (ha : 97 ≤ a) (ha' : a < gz M) (hr : gR M (t + 4) N = some a)
    (hQ : ∀ M', Appd M M' t src s n a K T N → Q (some a) M') : sp_X2_append_84 t (some src) s n M Q := by
  have hc := TL_cap ht
  have f := TL_facts t ht
  have hts : t ≠ src := fun e => by
    obtain ⟨⟨m, hm⟩, -⟩ := hA
    rw [← e, f.1] at hm; cases hm
  unfold sp_X2_append_84
  rw [h6, TL_l4, show ((N : Nat) : Int).toNat = N by omega]
  refine ⟨by omega, ?_⟩
  rintro r7 rfl
  refine ⟨a, hr, iO_hi ha ha', ?_⟩
  rintro M9 rfl M10 rfl M11 rfl M12 rfl
  refine ⟨n + 1, ?_⟩
  simp only [gI_pI, gI_pL, gI_pD, gI_pR, gI_pnw, gI_pcp, gL_pI, gL_pL, gL_pD, gL_pR, gL_pnw, gL_pcp, gD_pI, gD_pL, gD_pD, gD_pR, gD_pnw, gD_pcp, gR_pI, gR_pL, gR_pD, gR_pR, gR_pnw, gR_pcp, gz_pI, gz_pL, gz_pD, gz_pR, gz_pnw, gz_pcp, h4, h5, if_neg (show ¬ (t = a ∧ (5 : Nat) = 3) by omega), if_neg (show ¬ (t = a ∧ (5 : Nat) = 2) by omega)]
  have g : Ag (fun b => b = a) M (pI (pI (pI (pI M a 2 (K : Nat)) a 3 (n : Nat)) a 4 (T : Nat)) a 5 0) := ((((Ag.refl (S := fun b => b = a)).pI rfl).pI rfl).pI rfl).pI rfl
  have q2 : gI (pI (pI (pI (pI M a 2 (K : Nat)) a 3 (n : Nat)) a 4 (T : Nat)) a 5 0) a 2 = (K : Nat) := by simp [gI_pI, gI_pL, gI_pD, gI_pR, gI_pnw, gI_pcp, gL_pI, gL_pL, gL_pD, gL_pR, gL_pnw, gL_pcp, gD_pI, gD_pL, gD_pD, gD_pR, gD_pnw, gD_pcp, gR_pI, gR_pL, gR_pD, gR_pR, gR_pnw, gR_pcp, gz_pI, gz_pL, gz_pD, gz_pR, gz_pnw, gz_pcp]
  have q3 : gI (pI (pI (pI (pI M a 2 (K : Nat)) a 3 (n : Nat)) a 4 (T : Nat)) a 5 0) a 3 = (n : Nat) := by simp [gI_pI, gI_pL, gI_pD, gI_pR, gI_pnw, gI_pcp, gL_pI, gL_pL, gL_pD, gL_pR, gL_pnw, gL_pcp, gD_pI, gD_pL, gD_pD, gD_pR, gD_pnw, gD_pcp, gR_pI, gR_pL, gR_pD, gR_pR, gR_pnw, gR_pcp, gz_pI, gz_pL, gz_pD, gz_pR, gz_pnw, gz_pcp]
  have q4 : gI (pI (pI (pI (pI M a 2 (K : Nat)) a 3 (n : Nat)) a 4 (T : Nat)) a 5 0) a 4 = (T : Nat) := by simp [gI_pI, gI_pL, gI_pD, gI_pR, gI_pnw, gI_pcp, gL_pI, gL_pL, gL_pD, gL_pR, gL_pnw, gL_pcp, gD_pI, gD_pL, gD_pD, gD_pR, gD_pnw, gD_pcp, gR_pI, gR_pL, gR_pD, gR_pR, gR_pnw, gR_pcp, gz_pI, gz_pL, gz_pD, gz_pR, gz_pnw, gz_pcp]
  have q5 : gI (pI (pI (pI (pI M a 2 (K : Nat)) a 3 (n : Nat)) a 4 (T : Nat)) a 5 0) a 5 = 0 := by simp [gI_pI, gI_pL, gI_pD, gI_pR, gI_pnw, gI_pcp, gL_pI, gL_pL, gL_pD, gL_pR, gL_pnw, gL_pcp, gD_pI, gD_pL, gD_pD, gD_pR, gD_pnw, gD_pcp, gR_pI, gR_pL, gR_pD, gR_pR, gR_pnw, gR_pcp, gz_pI, gz_pL, gz_pD, gz_pR, gz_pnw, gz_pcp]
  generalize pI (pI (pI (pI M a 2 (K : Nat)) a 3 (n : Nat)) a 4 (T : Nat)) a 5 0 = M1 at g q2 q3 q4 q5 ⊢
  have r4 : gI M1 t 4 = (K : Nat) := by rw [g.I (by omega)]; exact h4
  refine c_append_128 (K := K) (i := 0) (d := n) (a := a) (s := s) (n := n) ht hKn hs hal hne hts (by omega) (g.A hA) r4 fun M2 g2 h1 h2 => ?_
  have G : Ag (fun b => b = t + 1 ∨ b = t + 2 ∨ b = a) M M2 := (g.mono (fun b hb => Or.inr (Or.inr hb))).trans (g2.mono (fun b hb => hb.elim Or.inl fun w => Or.inr (Or.inl w)))
  have s4 : gI M2 t 4 = (K : Nat) := by rw [G.I (by omega)]; exact h4
  have s5 : gI M2 t 5 = (T : Nat) := by rw [G.I (by omega)]; exact h5
  have s6 : gI M2 t 6 = (N : Nat) := by rw [G.I (by omega)]; exact h6
  rw [s4]
  refine ⟨by omega, ?_⟩
  rintro M17 rfl
  simp only [gI_pI, gI_pL, gI_pD, gI_pR, gI_pnw, gI_pcp, gL_pI, gL_pL, gL_pD, gL_pR, gL_pnw, gL_pcp, gD_pI, gD_pL, gD_pD, gD_pR, gD_pnw, gD_pcp, gR_pI, gR_pL, gR_pD, gR_pR, gR_pnw, gR_pcp, gz_pI, gz_pL, gz_pD, gz_pR, gz_pnw, gz_pcp, s6, true_and, if_neg (show ¬ ((6 : Nat) = 4) by omega)]
  refine ⟨by omega, ?_⟩
  rintro M18 rfl
  have G2 : Ag (fun b => b = t ∨ b = t + 1 ∨ b = t + 2 ∨ b = a) M (pI (pI M2 t 4 ((K : Nat) + (n : Nat))) t 6 ((N : Nat) + 1)) :=
    ((G.mono (S' := fun b => b = t ∨ b = t + 1 ∨ b = t + 2 ∨ b = a) (fun b hb => Or.inr hb)).pI (Or.inl rfl)).pI (Or.inl rfl)
  have hat : ¬ a = t := by omega
  refine hQ _ ⟨ha, by simp only [gI_pI, gI_pL, gI_pD, gI_pR, gI_pnw, gI_pcp, gL_pI, gL_pL, gL_pD, gL_pR, gL_pnw, gL_pcp, gD_pI, gD_pL, gD_pD, gD_pR, gD_pnw, gD_pcp, gR_pI, gR_pL, gR_pD, gR_pR, gR_pnw, gR_pcp, gz_pI, gz_pL, gz_pD, gz_pR, gz_pnw, gz_pcp]; rw [G.1]; exact ha', (G2.mono (fun b hb => by omega)).toL, hpool.ag G2 (fun u hu e => ?_), ?_, fun r hr' => ?_, fun b hb => (by rw [hr] at hb; cases hb; rfl), ⟨?_, ?_, ?_⟩, ⟨?_, ?_, ?_, ?_⟩, fun j hj => ?_, fun j hj => ?_⟩
  · have fu := TL_facts u hu
    obtain ⟨-, -, -, -, -, fu1, fu2, -, -, -, fu3, fu4, fu5⟩ := fu
    obtain ⟨-, -, -, -, -, f1, f2, -, -, -, f3, f4, f5⟩ := f
    omega
  · rw [G2.R (by omega)]; exact hr
  · rw [G2.R (by omega)]
  · simp [gI_pI, gI_pL, gI_pD, gI_pR, gI_pnw, gI_pcp, gL_pI, gL_pL, gL_pD, gL_pR, gL_pnw, gL_pcp, gD_pI, gD_pL, gD_pD, gD_pR, gD_pnw, gD_pcp, gR_pI, gR_pL, gR_pD, gR_pR, gR_pnw, gR_pcp, gz_pI, gz_pL, gz_pD, gz_pR, gz_pnw, gz_pcp]
  · simp [gI_pI, gI_pL, gI_pD, gI_pR, gI_pnw, gI_pcp, gL_pI, gL_pL, gL_pD, gL_pR, gL_pnw, gL_pcp, gD_pI, gD_pL, gD_pD, gD_pR, gD_pnw, gD_pcp, gR_pI, gR_pL, gR_pD, gR_pR, gR_pnw, gR_pcp, gz_pI, gz_pL, gz_pD, gz_pR, gz_pnw, gz_pcp, s5]
  · simp [gI_pI, gI_pL, gI_pD, gI_pR, gI_pnw, gI_pcp, gL_pI, gL_pL, gL_pD, gL_pR, gL_pnw, gL_pcp, gD_pI, gD_pL, gD_pD, gD_pR, gD_pnw, gD_pcp, gR_pI, gR_pL, gR_pD, gR_pR, gR_pnw, gR_pcp, gz_pI, gz_pL, gz_pD, gz_pR, gz_pnw, gz_pcp]
  · simp only [gI_pI, gI_pL, gI_pD, gI_pR, gI_pnw, gI_pcp, gL_pI, gL_pL, gL_pD, gL_pR, gL_pnw, gL_pcp, gD_pI, gD_pL, gD_pD, gD_pR, gD_pnw, gD_pcp, gR_pI, gR_pL, gR_pD, gR_pR, gR_pnw, gR_pcp, gz_pI, gz_pL, gz_pD, gz_pR, gz_pnw, gz_pcp, hat, false_and, if_false]; rw [g2.I (by omega)]; exact q2
  · simp only [gI_pI, gI_pL, gI_pD, gI_pR, gI_pnw, gI_pcp, gL_pI, gL_pL, gL_pD, gL_pR, gL_pnw, gL_pcp, gD_pI, gD_pL, gD_pD, gD_pR, gD_pnw, gD_pcp, gR_pI, gR_pL, gR_pD, gR_pR, gR_pnw, gR_pcp, gz_pI, gz_pL, gz_pD, gz_pR, gz_pnw, gz_pcp, hat, false_and, if_false]; rw [g2.I (by omega)]; exact q3
  · simp only [gI_pI, gI_pL, gI_pD, gI_pR, gI_pnw, gI_pcp, gL_pI, gL_pL, gL_pD, gL_pR, gL_pnw, gL_pcp, gD_pI, gD_pL, gD_pD, gD_pR, gD_pnw, gD_pcp, gR_pI, gR_pL, gR_pD, gR_pR, gR_pnw, gR_pcp, gz_pI, gz_pL, gz_pD, gz_pR, gz_pnw, gz_pcp, hat, false_and, if_false]; rw [g2.I (by omega)]; exact q4
  · simp only [gI_pI, gI_pL, gI_pD, gI_pR, gI_pnw, gI_pcp, gL_pI, gL_pL, gL_pD, gL_pR, gL_pnw, gL_pcp, gD_pI, gD_pL, gD_pD, gD_pR, gD_pnw, gD_pcp, gR_pI, gR_pL, gR_pD, gR_pR, gR_pnw, gR_pcp, gz_pI, gz_pL, gz_pD, gz_pR, gz_pnw, gz_pcp, hat, false_and, if_false]; rw [g2.I (by omega)]; exact q5
  · have e := h1 j (by omega) hj
    simp only [gI_pI, gI_pL, gI_pD, gI_pR, gI_pnw, gI_pcp, gL_pI, gL_pL, gL_pD, gL_pR, gL_pnw, gL_pcp, gD_pI, gD_pL, gD_pD, gD_pR, gD_pnw, gD_pcp, gR_pI, gR_pL, gR_pD, gR_pR, gR_pnw, gR_pcp, gz_pI, gz_pL, gz_pD, gz_pR, gz_pnw, gz_pcp, if_neg (show ¬ (t + 2 = t ∧ K + j = 6) by omega), if_neg (show ¬ (t + 2 = t ∧ K + j = 4) by omega)]
    rw [e.1, e.2, g.L (by omega)]
    exact ⟨rfl, rfl⟩
  · have e := h2 j (by omega)
    simp only [gI_pI, gI_pL, gI_pD, gI_pR, gI_pnw, gI_pcp, gL_pI, gL_pL, gL_pD, gL_pR, gL_pnw, gL_pcp, gD_pI, gD_pL, gD_pD, gD_pR, gD_pnw, gD_pcp, gR_pI, gR_pL, gR_pD, gR_pR, gR_pnw, gR_pcp, gz_pI, gz_pL, gz_pD, gz_pR, gz_pnw, gz_pcp, if_neg (show ¬ (t + 2 = t ∧ j = 6) by omega), if_neg (show ¬ (t + 2 = t ∧ j = 4) by omega)]
    rw [e.1, e.2, g.L (by omega), g.I (by omega)]
    exact ⟨rfl, rfl⟩
theorem c_append {M : Im} {t src s n K T N : Nat} {Q : Option Nat → Im → Prop} (hk : K0 ≤ gz M) (ht : t ∈ TL) (hpool : Pool M) (h4 : gI M t 4 = (K : Nat)) (h5 : gI M t 5 = (T : Nat)) (h6 : gI M t 6 = (N : Nat)) (hN : N < cap t) (hn : 1 ≤ n) (hKn : K + n ≤ cap t)
    (hA : iA M src .long) (hs : s + n ≤ alen src) (hal : alen src ≤ 600) (hne : src ≠ t + 1) (hsr : src < 97) (hpv : ∀ r, r < N → gR M (t + 4) r ≠ none)
    (hQ : ∀ a M', Appd M M' t src s n a K T N → Q (some a) M') : sp_X2_append t (some src) s n M Q := by
  have hc := TL_cap ht
  have f := TL_facts t ht
  unfold sp_X2_append
  refine ⟨TL_O ht hk, fun h => by omega, fun _ => ⟨fun h => by omega, fun _ => ⟨src, rfl, hA, by omega, fun h => by omega, fun _ => ?_⟩⟩⟩
  unfold sp_X2_append_21
  rw [h4, h6, TL_l1 ht, TL_l4, show ((N : Nat) : Int).toNat = N by omega]
  refine ⟨fun h => by omega, fun _ => ⟨by omega, fun h => by omega, fun _ => ⟨fun _ => ⟨by omega, ?_⟩, fun h => by omega⟩⟩⟩
  rintro r1 rfl
  refine ⟨fun hr => ⟨hpool.lt, ?_⟩, fun a hr => ?_⟩
  · rintro a3 M4 rfl rfl
    have hz : 97 ≤ gz M := hk
    unfold sp_X0_init
    refine ⟨iO_hi hz (by simp [gI_pI, gI_pL, gI_pD, gI_pR, gI_pnw, gI_pcp, gL_pI, gL_pL, gL_pD, gL_pR, gL_pnw, gL_pcp, gD_pI, gD_pL, gD_pD, gD_pR, gD_pnw, gD_pcp, gR_pI, gR_pL, gR_pD, gR_pR, gR_pnw, gR_pcp, gz_pI, gz_pL, gz_pD, gz_pR, gz_pnw, gz_pcp]), by omega, ?_⟩
    rintro M6 rfl
    have hp' := hpool.next ht hN hpv hr
    have hq : ∀ b, b < 97 → ∀ j, gI (pR (pnw M) (t + 4) N (some (gz M))) b j = gI M b j := fun b hb j => by simp only [gI_pI, gI_pL, gI_pD, gI_pR, gI_pnw, gI_pcp, gL_pI, gL_pL, gL_pD, gL_pR, gL_pnw, gL_pcp, gD_pI, gD_pL, gD_pD, gD_pR, gD_pnw, gD_pcp, gR_pI, gR_pL, gR_pD, gR_pR, gR_pnw, gR_pcp, gz_pI, gz_pL, gz_pD, gz_pR, gz_pnw, gz_pcp]; rw [if_neg (by omega)]
    refine c_append_84 (a := gz M) (by simp only [gI_pI, gI_pL, gI_pD, gI_pR, gI_pnw, gI_pcp, gL_pI, gL_pL, gL_pD, gL_pR, gL_pnw, gL_pcp, gD_pI, gD_pL, gD_pD, gD_pR, gD_pnw, gD_pcp, gR_pI, gR_pL, gR_pD, gR_pR, gR_pnw, gR_pcp, gz_pI, gz_pL, gz_pD, gz_pR, gz_pnw, gz_pcp]; omega) ht hp' (by rw [hq t (by omega)]; exact h4) (by rw [hq t (by omega)]; exact h5) (by rw [hq t (by omega)]; exact h6) hN hKn ⟨hA.1, by simp only [gI_pI, gI_pL, gI_pD, gI_pR, gI_pnw, gI_pcp, gL_pI, gL_pL, gL_pD, gL_pR, gL_pnw, gL_pcp, gD_pI, gD_pL, gD_pD, gD_pR, gD_pnw, gD_pcp, gR_pI, gR_pL, gR_pD, gR_pR, gR_pnw, gR_pcp, gz_pI, gz_pL, gz_pD, gz_pR, gz_pnw, gz_pcp]; have := hA.2; omega⟩ hs hal hne hsr hz (by simp only [gI_pI, gI_pL, gI_pD, gI_pR, gI_pnw, gI_pcp, gL_pI, gL_pL, gL_pD, gL_pR, gL_pnw, gL_pcp, gD_pI, gD_pL, gD_pD, gD_pR, gD_pnw, gD_pcp, gR_pI, gR_pL, gR_pD, gR_pR, gR_pnw, gR_pcp, gz_pI, gz_pL, gz_pD, gz_pR, gz_pnw, gz_pcp]; omega) (by simp [gI_pI, gI_pL, gI_pD, gI_pR, gI_pnw, gI_pcp, gL_pI, gL_pL, gL_pD, gL_pR, gL_pnw, gL_pcp, gD_pI, gD_pL, gD_pD, gD_pR, gD_pnw, gD_pcp, gR_pI, gR_pL, gR_pD, gR_pR, gR_pnw, gR_pcp, gz_pI, gz_pL, gz_pD, gz_pR, gz_pnw, gz_pcp]) fun M' hM => hQ (gz M) M' ?_
    obtain ⟨b1, b2, b3, b4, b5, b6, -, b7, b8, b9, b10⟩ := hM
    have gg : AgL (fun b => b = t ∨ b = t + 1 ∨ b = t + 2 ∨ b = t + 4 ∨ b = gz M) M (pR (pnw M) (t + 4) N (some (gz M))) := by
      refine ⟨by simp only [gI_pI, gI_pL, gI_pD, gI_pR, gI_pnw, gI_pcp, gL_pI, gL_pL, gL_pD, gL_pR, gL_pnw, gL_pcp, gD_pI, gD_pL, gD_pD, gD_pR, gD_pnw, gD_pcp, gR_pI, gR_pL, gR_pD, gR_pR, gR_pnw, gR_pcp, gz_pI, gz_pL, gz_pD, gz_pR, gz_pnw, gz_pcp]; omega, fun b hb j => ?_⟩
      simp only [gI_pI, gI_pL, gI_pD, gI_pR, gI_pnw, gI_pcp, gL_pI, gL_pL, gL_pD, gL_pR, gL_pnw, gL_pcp, gD_pI, gD_pL, gD_pD, gD_pR, gD_pnw, gD_pcp, gR_pI, gR_pL, gR_pD, gR_pR, gR_pnw, gR_pcp, gz_pI, gz_pL, gz_pD, gz_pR, gz_pnw, gz_pcp, if_neg (show ¬ b = gz M by omega), if_neg (show ¬ (b = t + 4 ∧ j = N) by omega), and_self]
    refine ⟨b1, b2, gg.trans b3, b4, b5, fun r hr' => ?_, fun b hb => (by rw [hr] at hb; cases hb), b7, b8, fun j hj => ?_, fun j hj => ?_⟩
    · rw [b6 r hr']
      simp only [gI_pI, gI_pL, gI_pD, gI_pR, gI_pnw, gI_pcp, gL_pI, gL_pL, gL_pD, gL_pR, gL_pnw, gL_pcp, gD_pI, gD_pL, gD_pD, gD_pR, gD_pnw, gD_pcp, gR_pI, gR_pL, gR_pD, gR_pR, gR_pnw, gR_pcp, gz_pI, gz_pL, gz_pD, gz_pR, gz_pnw, gz_pcp]
      rw [if_neg (by omega), if_neg (by omega)]
    · rw [(b9 j hj).1, (b9 j hj).2]
      refine ⟨?_, rfl⟩
      simp only [gI_pI, gI_pL, gI_pD, gI_pR, gI_pnw, gI_pcp, gL_pI, gL_pL, gL_pD, gL_pR, gL_pnw, gL_pcp, gD_pI, gD_pL, gD_pD, gD_pR, gD_pnw, gD_pcp, gR_pI, gR_pL, gR_pD, gR_pR, gR_pnw, gR_pcp, gz_pI, gz_pL, gz_pD, gz_pR, gz_pnw, gz_pcp]
      rw [if_neg (by omega)]
    · rw [(b10 j hj).1, (b10 j hj).2]
      simp only [gI_pI, gI_pL, gI_pD, gI_pR, gI_pnw, gI_pcp, gL_pI, gL_pL, gL_pD, gL_pR, gL_pnw, gL_pcp, gD_pI, gD_pL, gD_pD, gD_pR, gD_pnw, gD_pcp, gR_pI, gR_pL, gR_pD, gR_pR, gR_pnw, gR_pcp, gz_pI, gz_pL, gz_pD, gz_pR, gz_pnw, gz_pcp]
      rw [if_neg (by omega), if_neg (by omega)]
      exact ⟨rfl, rfl⟩
  · obtain ⟨H, g1, -, -⟩ := id hpool
    obtain ⟨k1, k2, k3⟩ := g1 t ht
    have hNH : N < H t := by
      refine Nat.not_le.mp fun q => ?_
      rw [k3 N q hN] at hr; cases hr
    obtain ⟨b, e1, e2, e3⟩ := k2 N hNH
    rw [hr] at e1
    cases e1
    exact c_append_84 hk ht hpool h4 h5 h6 hN hKn hA hs hal hne hsr e2 e3 hr fun M' hM => hQ a M' hM
