/-! ===== makeLayers ===== -/
theorem TR.ag {S : Nat → Prop} {M M' : Im} {t : Nat} {l : List Pc} (h : TR M t l) (g : Ag S M M') (h1 : ∀ b, t ≤ b → b ≤ t + 4 → ¬ S b) (h2 : ∀ b, 97 ≤ b → ¬ S b) : TR M' t l := by
  obtain ⟨a1, a2, a3, a4⟩ := h
  refine ⟨by rw [g.I (h1 t (by omega) (by omega))]; exact a1, by rw [g.I (h1 t (by omega) (by omega))]; exact a2, by rw [g.I (h1 t (by omega) (by omega))]; exact a3, fun p q hq => ?_⟩
  obtain ⟨a, e1, e2, e3, e4⟩ := a4 p q hq
  exact ⟨a, by rw [g.R (h1 _ (by omega) (by omega))]; exact e1, e2, by rw [g.1]; exact e3, e4.frame (fun j => g.I (h2 a e2) j) (fun j => g.L (h2 a e2) j) (fun j => g.D (h2 a e2) j) (fun i _ => g.L (h1 _ (by omega) (by omega)) i) (fun i _ => g.I (h1 _ (by omega) (by omega)) i) (fun i _ => g.L (h1 _ (by omega) (by omega)) i)⟩
theorem UT_in {i : Nat} (h : i < 10) : 19 + 5 * i ∈ TL := by
  have : ∀ i, i < 10 → 19 + 5 * i ∈ TL := by decide
  exact this i h
theorem UT_cap {i : Nat} (h : i < 9) : cap (19 + 5 * (i + 1)) * 2 = cap (19 + 5 * i) := by
  have : ∀ i, i < 9 → cap (19 + 5 * (i + 1)) * 2 = cap (19 + 5 * i) := by decide +kernel
  exact this i h
theorem UT_cap9 : cap (19 + 5 * 9) = 2 := by decide +kernel
theorem UT_z {M : Im} {i : Nat} (h : i < 10) : gz4 M 12 i = some (19 + 5 * i) := by
  unfold gz4 zfin
  rw [if_pos rfl, if_pos h]
/-- the layers that the class has: how many, and what they are -/
def Lay (M : Im) (L : List (List Pc)) : Prop := gI M 0 6 = L.length ∧ L.length ≤ 10 ∧ ∀ i y, L[i]? = some y → TR M (19 + 5 * i) y
/-- the tiers of layers, the slopes and the scratch row may change, and how many layers there are -/
def LayS (M' : Im) (b : Nat) : Prop := b = 0 ∨ b = 17 ∨ b = 18 ∨ (19 ≤ b ∧ b < 69) ∨ ∃ i, i < 10 ∧ own M' (19 + 5 * i) b
def FrY (M M' : Im) : Prop := AgL (LayS M') M M' ∧ (∀ j, j ≠ 6 → gI M' 0 j = gI M 0 j) ∧ (∀ j, gR M' 0 j = gR M 0 j) ∧ ∀ i, i < 10 → ∀ b, own M (19 + 5 * i) b → own M' (19 + 5 * i) b
theorem FrY.refl {M : Im} : FrY M M := ⟨AgL.refl, fun _ _ => rfl, fun _ => rfl, fun _ _ _ h => h⟩
theorem FrY.trans {M M' M'' : Im} (h : FrY M M') (h' : FrY M' M'') : FrY M M'' :=
  ⟨(h.1.mono (fun b hb => by
    rcases hb with hb | hb | hb | hb | ⟨i, hi, hb⟩
    · exact Or.inl hb
    · exact Or.inr (Or.inl hb)
    · exact Or.inr (Or.inr (Or.inl hb))
    · exact Or.inr (Or.inr (Or.inr (Or.inl hb)))
    · exact Or.inr (Or.inr (Or.inr (Or.inr ⟨i, hi, h'.2.2.2 i hi b hb⟩))))).trans h'.1, fun j hj => (h'.2.1 j hj).trans (h.2.1 j hj), fun j => (h'.2.2.1 j).trans (h.2.2.1 j), fun i hi b hb => h'.2.2.2 i hi b (h.2.2.2 i hi b hb)⟩
