/-! ===== makeLayers ===== -/
theorem TR.ag {S : Nat → Prop} {M M' : Im} {t : Nat} {l : List Pc} (h : TR M t l) (g : Ag S M M') (h1 : ∀ b, t ≤ b → b ≤ t + 4 → ¬ S b) (h2 : ∀ b, 97 ≤ b → ¬ S b) : TR M' t l := by
  obtain ⟨a1, a2, a3, a4⟩ := h
  refine ⟨by rw [g.I (h1 t (by omega) (by omega))]; exact a1, by rw [g.I (h1 t (by omega) (by omega))]; exact a2, by rw [g.I (h1 t (by omega) (by omega))]; exact a3, fun p q hq => ?_⟩
  obtain ⟨a, e1, e2, e3, e4⟩ := a4 p q hq
  exact ⟨a, by rw [g.R (h1 _ (by omega) (by omega))]; exact e1, e2, by rw [g.1]; exact e3, e4.frame (fun j => g.I (h2 a e2) j) (fun j => g.L (h2 a e2) j) (fun j => g.D (h2 a e2) j) (fun i _ => g.L (h1 _ (by omega) (by omega)) i) (fun i _ => g.I (h1 _ (by omega) (by omega)) i) (fun i _ => g.L (h1 _ (by omega) (by omega)) i)⟩
theorem UT_in {i : Nat} (h : i < 10) : 19 + 5 * i ∈ TL := by
  have : ∀ i, i < 10 → 19 + 5 * i ∈ TL := by decide
  exact this i h
theorem UT_cap {i : Nat} (h : i < 9) : cap (19 + 5 * i) ≤ cap (19 + 5 * (i + 1)) * 2 := by
  have : ∀ i, i < 9 → cap (19 + 5 * i) ≤ cap (19 + 5 * (i + 1)) * 2 := by decide +kernel
  exact this i h
theorem UT_cap9 : cap (19 + 5 * 9) = 2 := by decide +kernel
theorem UT_z {M : Im} {i : Nat} (h : i < 10) : gz4 M 12 i = some (19 + 5 * i) := by
  unfold gz4 zfin
  rw [if_pos rfl, if_pos h]
/-- the layers that the class has: how many, and what they are -/
def Lay (M : Im) (L : List (List Pc)) : Prop := gI M 0 6 = L.length ∧ L.length ≤ 10 ∧ ∀ i y, L[i]? = some y → TR M (19 + 5 * i) y
/-- the tiers of layers, the slopes and the scratch row may change, and how many layers there are -/
def LayS (M' : Im) (b : Nat) : Prop := b = 0 ∨ b = 17 ∨ b = 18 ∨ (19 ≤ b ∧ b < 69) ∨ ∃ i, i < 10 ∧ own M' (19 + 5 * i) b
def FrY (M M' : Im) : Prop := AgL (LayS M') M M' ∧ (∀ j, j ≠ 6 → gI M' 0 j = gI M 0 j) ∧ (∀ j, gR M' 0 j = gR M 0 j) ∧ ∀ i, i < 10 → ∀ b, own M (19 + 5 * i) b → own M' (19 + 5 * i) b
theorem FrY.refl {M : Im} : FrY M M := ⟨AgL.refl, fun _ _ => rfl, fun _ => rfl, fun _ _ _ h => h⟩
theorem FrY.trans {M M' M'' : Im} (h : FrY M M') (h' : FrY M' M'') : FrY M M'' :=
  ⟨(h.1.mono (fun b hb => by
    rcases hb with hb | hb | hb | hb | ⟨i, hi, hb⟩
    · exact Or.inl hb
    · exact Or.inr (Or.inl hb)
    · exact Or.inr (Or.inr (Or.inl hb))
    · exact Or.inr (Or.inr (Or.inr (Or.inl hb)))
    · exact Or.inr (Or.inr (Or.inr (Or.inr ⟨i, hi, h'.2.2.2 i hi b hb⟩))))).trans h'.1, fun j hj => (h'.2.1 j hj).trans (h.2.1 j hj), fun j => (h'.2.2.1 j).trans (h.2.2.1 j), fun i hi b hb => h'.2.2.2 i hi b (h.2.2.2 i hi b hb)⟩
theorem own_hi {M : Im} {t b : Nat} (hP : Pool M) (ht : t ∈ TL) (h : own M t b) : 97 ≤ b ∧ b < gz M := by
  obtain ⟨p, hp, e⟩ := h
  obtain ⟨H, k1, -, -⟩ := hP
  obtain ⟨q1, q2, q3⟩ := k1 t ht
  have hlt : p < H t := Nat.not_le.mp fun w => by rw [q3 p w hp] at e; cases e
  obtain ⟨b', e1, e2, e3⟩ := q2 p hlt
  rw [e] at e1
  cases e1
  exact ⟨e2, e3⟩
theorem FrY.ofFr {S0 : Nat → Prop} {M M' : Im} {i : Nat} (hi : i < 10) (hS : ∀ b, S0 b → b = 17 ∨ b = 18) (g : Fr S0 (19 + 5 * i) M M') (hP : Pool M') : FrY M M' := by
  have off : ∀ b, b < 97 → b ≠ 17 → b ≠ 18 → (b < 19 + 5 * i ∨ 19 + 5 * i + 4 < b) → ¬ (S0 b ∨ (19 + 5 * i ≤ b ∧ b ≤ 19 + 5 * i + 4) ∨ own M' (19 + 5 * i) b) := fun b h1 h2 h3 h4 w => by
    rcases w with w | w | w
    · have := hS b w; omega
    · omega
    · have := own_hi hP (UT_in hi) w; omega
  refine ⟨g.1.mono (fun b hb => ?_), fun j _ => g.1.I (off 0 (by omega) (by omega) (by omega) (by omega)) j, fun j => g.1.R (off 0 (by omega) (by omega) (by omega) (by omega)) j, fun k hk b hb => ?_⟩
  · rcases hb with hb | hb | hb
    · rcases hS b hb with h | h
      · exact Or.inr (Or.inl h)
      · exact Or.inr (Or.inr (Or.inl h))
    · exact Or.inr (Or.inr (Or.inr (Or.inl (by omega))))
    · exact Or.inr (Or.inr (Or.inr (Or.inr ⟨i, hi, hb⟩)))
  · by_cases e : k = i
    · subst e; exact g.2 b hb
    · obtain ⟨p, hp, hr⟩ := hb
      exact ⟨p, hp, by rw [g.1.R (off _ (by omega) (by omega) (by omega) (by omega))]; exact hr⟩
theorem FrY.ofAg {S : Nat → Prop} {M M' : Im} (g : Ag S M M') (hS : ∀ b, S b → b = 17 ∨ b = 18 ∨ (19 ≤ b ∧ b < 69 ∧ b % 5 = 4 ∧ ∃ i, i < 10 ∧ b = 19 + 5 * i)) : FrY M M' := by
  have o : ∀ i, i < 10 → ¬ S (19 + 5 * i + 4) := fun i hi w => by rcases hS _ w with h | h | h <;> omega
  have z : ¬ S 0 := fun w => by rcases hS _ w with h | h | h <;> omega
  refine ⟨(g.mono (fun b hb => ?_)).toL, fun j _ => g.I z j, fun j => g.R z j, fun i hi b ⟨p, hp, hr⟩ => ⟨p, hp, by rw [g.R (o i hi)]; exact hr⟩⟩
  rcases hS b hb with h | h | h
  · exact Or.inr (Or.inl h)
  · exact Or.inr (Or.inr (Or.inl h))
  · exact Or.inr (Or.inr (Or.inr (Or.inl ⟨h.1, h.2.1⟩)))
theorem FrY.count {M : Im} {v : Int} : FrY M (pI M 0 6 v) := by
  refine ⟨(((Ag.refl (S := (· = 0)) (M := M)).pI (v := v) (j := 6) rfl).mono (fun b hb => Or.inl hb)).toL, fun j hj => ?_, fun j => rfl, fun i hi b h => h⟩
  simp only [gI_pI, gI_pL, gI_pD, gI_pR, gI_pnw, gI_pcp, gL_pI, gL_pL, gL_pD, gL_pR, gL_pnw, gL_pcp, gD_pI, gD_pL, gD_pD, gD_pR, gD_pnw, gD_pcp, gR_pI, gR_pL, gR_pD, gR_pR, gR_pnw, gR_pcp, gz_pI, gz_pL, gz_pD, gz_pR, gz_pnw, gz_pcp]
  rw [if_neg (by omega)]
