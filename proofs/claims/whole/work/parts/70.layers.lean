/-! ===== makeLayers ===== -/
theorem TR.ag {S : Nat → Prop} {M M' : Im} {t : Nat} {l : List Pc} (h : TR M t l) (g : Ag S M M') (h1 : ∀ b, t ≤ b → b ≤ t + 4 → ¬ S b) (h2 : ∀ b, 97 ≤ b → ¬ S b) : TR M' t l := by
  obtain ⟨a1, a2, a3, a4⟩ := h
  refine ⟨by rw [g.I (h1 t (by omega) (by omega))]; exact a1, by rw [g.I (h1 t (by omega) (by omega))]; exact a2, by rw [g.I (h1 t (by omega) (by omega))]; exact a3, fun p q hq => ?_⟩
  obtain ⟨a, e1, e2, e3, e4⟩ := a4 p q hq
  exact ⟨a, by rw [g.R (h1 _ (by omega) (by omega))]; exact e1, e2, by rw [g.1]; exact e3, e4.frame (fun j => g.I (h2 a e2) j) (fun j => g.L (h2 a e2) j) (fun j => g.D (h2 a e2) j) (fun i _ => g.L (h1 _ (by omega) (by omega)) i) (fun i _ => g.I (h1 _ (by omega) (by omega)) i) (fun i _ => g.L (h1 _ (by omega) (by omega)) i)⟩
theorem UT_in {i : Nat} (h : i < 10) : 19 + 5 * i ∈ TL := by
  have : ∀ i, i < 10 → 19 + 5 * i ∈ TL := by decide
  exact this i h
theorem UT_cap {i : Nat} (h : i < 9) : cap (19 + 5 * (i + 1)) * 2 = cap (19 + 5 * i) := by
  have : ∀ i, i < 9 → cap (19 + 5 * (i + 1)) * 2 = cap (19 + 5 * i) := by decide +kernel
  exact this i h
theorem UT_cap9 : cap (19 + 5 * 9) = 2 := by decide +kernel
theorem UT_z {M : Im} {i : Nat} (h : i < 10) : gz4 M 12 i = some (19 + 5 * i) := by
  unfold gz4 zfin
  rw [if_pos rfl, if_pos h]
/-- the layers that the class has: how many, and what they are -/
def Lay (M : Im) (L : List (List Pc)) : Prop := gI M 0 6 = L.length ∧ L.length ≤ 10 ∧ ∀ i y, L[i]? = some y → TR M (19 + 5 * i) y
