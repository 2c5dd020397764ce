/-! ===== the model's pieces: made of points ===== -/
/-- what the model may write when it makes a piece p with keys from at on -/
def PW (p at_ n : Nat) (M M' : Im) : Prop := Ag (fun b => b = 69 ∨ (74 ≤ b ∧ b ≤ 82) ∨ b = 84) M M' ∧ keep69 M M' ∧ (∀ b g, 74 ≤ b → b ≤ 81 → g ≠ p → gI M' b g = gI M b g ∧ gL M' b g = gL M b g) ∧ (∀ j, (j < at_ ∨ at_ + n ≤ j) → gL M' 82 j = gL M 82 j ∧ gI M' 84 j = gI M 84 j)
theorem PW.refl {p at_ n : Nat} {M : Im} : PW p at_ n M M := ⟨Ag.refl, keep69.refl, fun _ _ _ _ _ => ⟨rfl, rfl⟩, fun _ _ => ⟨rfl, rfl⟩⟩
theorem PW.trans {p at_ n : Nat} {M M' M'' : Im} (h : PW p at_ n M M') (h' : PW p at_ n M' M'') : PW p at_ n M M'' :=
  ⟨h.1.trans h'.1, h.2.1.trans h'.2.1, fun b g h1 h2 h3 => ⟨((h'.2.2.1 b g h1 h2 h3).1).trans (h.2.2.1 b g h1 h2 h3).1, ((h'.2.2.1 b g h1 h2 h3).2).trans (h.2.2.1 b g h1 h2 h3).2⟩, fun j hj => ⟨((h'.2.2.2 j hj).1).trans (h.2.2.2 j hj).1, ((h'.2.2.2 j hj).2).trans (h.2.2.2 j hj).2⟩⟩
theorem PW.pI {p at_ n : Nat} {M M' : Im} (h : PW p at_ n M M') {b : Nat} {v : Int} (h1 : 74 ≤ b) (h2 : b ≤ 81) : PW p at_ n M (pI M' b p v) :=
  h.trans ⟨(Ag.refl (S := fun b => b = 69 ∨ (74 ≤ b ∧ b ≤ 82) ∨ b = 84)).pI (Or.inr (Or.inl ⟨h1, by omega⟩)), fun k hk => by simp only [gI_pI, gI_pL, gI_pD, gI_pR, gI_pnw, gI_pcp, gL_pI, gL_pL, gL_pD, gL_pR, gL_pnw, gL_pcp, gD_pI, gD_pL, gD_pD, gD_pR, gD_pnw, gD_pcp, gR_pI, gR_pL, gR_pD, gR_pR, gR_pnw, gR_pcp, gz_pI, gz_pL, gz_pD, gz_pR, gz_pnw, gz_pcp]; rw [if_neg (by omega)], fun c g h3 h4 h5 => by constructor <;> simp only [gI_pI, gI_pL, gI_pD, gI_pR, gI_pnw, gI_pcp, gL_pI, gL_pL, gL_pD, gL_pR, gL_pnw, gL_pcp, gD_pI, gD_pL, gD_pD, gD_pR, gD_pnw, gD_pcp, gR_pI, gR_pL, gR_pD, gR_pR, gR_pnw, gR_pcp, gz_pI, gz_pL, gz_pD, gz_pR, gz_pnw, gz_pcp] <;> rw [if_neg (by omega)], fun j hj => by constructor <;> simp only [gI_pI, gI_pL, gI_pD, gI_pR, gI_pnw, gI_pcp, gL_pI, gL_pL, gL_pD, gL_pR, gL_pnw, gL_pcp, gD_pI, gD_pL, gD_pD, gD_pR, gD_pnw, gD_pcp, gR_pI, gR_pL, gR_pD, gR_pR, gR_pnw, gR_pcp, gz_pI, gz_pL, gz_pD, gz_pR, gz_pnw, gz_pcp] <;> rw [if_neg (by omega)]⟩
theorem PW.pL {p at_ n : Nat} {M M' : Im} (h : PW p at_ n M M') {b : Nat} {v : Int} (h1 : 74 ≤ b) (h2 : b ≤ 81) : PW p at_ n M (pL M' b p v) :=
  h.trans ⟨(Ag.refl (S := fun b => b = 69 ∨ (74 ≤ b ∧ b ≤ 82) ∨ b = 84)).pL (Or.inr (Or.inl ⟨h1, by omega⟩)), fun k hk => rfl, fun c g h3 h4 h5 => by constructor <;> simp only [gI_pI, gI_pL, gI_pD, gI_pR, gI_pnw, gI_pcp, gL_pI, gL_pL, gL_pD, gL_pR, gL_pnw, gL_pcp, gD_pI, gD_pL, gD_pD, gD_pR, gD_pnw, gD_pcp, gR_pI, gR_pL, gR_pD, gR_pR, gR_pnw, gR_pcp, gz_pI, gz_pL, gz_pD, gz_pR, gz_pnw, gz_pcp] <;> rw [if_neg (by omega)], fun j hj => by constructor <;> simp only [gI_pI, gI_pL, gI_pD, gI_pR, gI_pnw, gI_pcp, gL_pI, gL_pL, gL_pD, gL_pR, gL_pnw, gL_pcp, gD_pI, gD_pL, gD_pD, gD_pR, gD_pnw, gD_pcp, gR_pI, gR_pL, gR_pD, gR_pR, gR_pnw, gR_pcp, gz_pI, gz_pL, gz_pD, gz_pR, gz_pnw, gz_pcp] <;> rw [if_neg (by omega)]⟩
theorem PW.ofAg69 {p at_ n : Nat} {M M' : Im} (g : Ag (· = 69) M M') (k : keep69 M M') : PW p at_ n M M' :=
  ⟨g.mono fun b hb => Or.inl hb, k, fun b x h1 h2 h3 => ⟨g.I (by omega) x, g.L (by omega) x⟩, fun j hj => ⟨g.L (by omega) j, g.I (by omega) j⟩⟩
theorem d_lean_77 {p a at_ n : Nat} {b m ki : Int} {f : Nat → Int} {Q : Im → Prop} {K : Nat → Int → Int → Int → Int → Int → Im → Prop} (ha : a + n ≤ 5000) (hat : at_ + n ≤ 12000) (hb : b = ((a + n : Nat) : Int)) :
    ∀ (d i : Nat) {M : Im}, i + d = n → K0 ≤ gz M → (∀ j, j < n → gL M 71 (a + j) = f j) →
    (∀ M', PW p at_ n M M' → (∀ c g, 74 ≤ c → c ≤ 81 → gI M' c g = gI M c g ∧ gL M' c g = gL M c g) → (∀ j, i ≤ j → j < n → gL M' 82 (at_ + j) = f j ∧ gI M' 84 (at_ + j) = 0) → (∀ j, j < at_ + i → gL M' 82 j = gL M 82 j ∧ gI M' 84 j = gI M 84 j) → K 69 p a b m ki M') →
    sp_X5_lean_77 (d + 1) 69 p a b m ki at_ ((a + i : Nat) : Int) M Q K
  | 0, i, M, h, hk, hf, hQ => by
    unfold sp_X5_lean_77
    refine ⟨fun _ => hQ M PW.refl (fun _ _ _ _ => ⟨rfl, rfl⟩) (fun j h1 h2 => by omega) (fun _ _ => ⟨rfl, rfl⟩), fun h => by omega⟩
  | d + 1, i, M, h, hk, hf, hQ => by
    have w71 : alen 71 = 5000 := rfl
    have w82 : alen 82 = 12000 := rfl
    have w84 : alen 84 = 12000 := rfl
    unfold sp_X5_lean_77
    rw [w71, w82, w84, show ((at_ : Int) + ((a + i : Nat) : Int) - (a : Int)).toNat = at_ + i by omega, show ((a + i : Nat) : Int).toNat = a + i by omega, hf i (by omega)]
    refine ⟨fun h => by omega, fun _ => ⟨by omega, by omega, by omega, by omega, by omega, by omega, ?_⟩⟩
    rintro M9 rfl
    refine ⟨by omega, by omega, by omega, by omega, by omega, ?_⟩
    rintro M10 rfl
    refine ⟨by omega, ?_⟩
    rintro i11 rfl
    rw [show ((a + i : Nat) : Int) + 1 = ((a + (i + 1) : Nat) : Int) by omega]
    have g : PW p at_ n M (pI (pL M 82 (at_ + i) (f i)) 84 (at_ + i) 0) := by
      refine ⟨((Ag.refl (S := fun b => b = 69 ∨ (74 ≤ b ∧ b ≤ 82) ∨ b = 84)).pL (Or.inr (Or.inl (by omega)))).pI (Or.inr (Or.inr rfl)), fun k hk => rfl, fun c g h3 h4 h5 => ?_, fun j hj => ?_⟩
      · constructor <;> simp only [gI_pI, gI_pL, gI_pD, gI_pR, gI_pnw, gI_pcp, gL_pI, gL_pL, gL_pD, gL_pR, gL_pnw, gL_pcp, gD_pI, gD_pL, gD_pD, gD_pR, gD_pnw, gD_pcp, gR_pI, gR_pL, gR_pD, gR_pR, gR_pnw, gR_pcp, gz_pI, gz_pL, gz_pD, gz_pR, gz_pnw, gz_pcp] <;> rw [if_neg (by omega)]
      · constructor <;> simp only [gI_pI, gI_pL, gI_pD, gI_pR, gI_pnw, gI_pcp, gL_pI, gL_pL, gL_pD, gL_pR, gL_pnw, gL_pcp, gD_pI, gD_pL, gD_pD, gD_pR, gD_pnw, gD_pcp, gR_pI, gR_pL, gR_pD, gR_pR, gR_pnw, gR_pcp, gz_pI, gz_pL, gz_pD, gz_pR, gz_pnw, gz_pcp] <;> rw [if_neg (by omega)]
    have e1 : ∀ j, gL (pI (pL M 82 (at_ + i) (f i)) 84 (at_ + i) 0) 82 j = if j = at_ + i then f i else gL M 82 j := fun j => by simp [gI_pI, gI_pL, gI_pD, gI_pR, gI_pnw, gI_pcp, gL_pI, gL_pL, gL_pD, gL_pR, gL_pnw, gL_pcp, gD_pI, gD_pL, gD_pD, gD_pR, gD_pnw, gD_pcp, gR_pI, gR_pL, gR_pD, gR_pR, gR_pnw, gR_pcp, gz_pI, gz_pL, gz_pD, gz_pR, gz_pnw, gz_pcp]
    have e2 : ∀ j, gI (pI (pL M 82 (at_ + i) (f i)) 84 (at_ + i) 0) 84 j = if j = at_ + i then 0 else gI M 84 j := fun j => by simp [gI_pI, gI_pL, gI_pD, gI_pR, gI_pnw, gI_pcp, gL_pI, gL_pL, gL_pD, gL_pR, gL_pnw, gL_pcp, gD_pI, gD_pL, gD_pD, gD_pR, gD_pnw, gD_pcp, gR_pI, gR_pL, gR_pD, gR_pR, gR_pnw, gR_pcp, gz_pI, gz_pL, gz_pD, gz_pR, gz_pnw, gz_pcp]
    have e3 : ∀ c g, 74 ≤ c → c ≤ 81 → gI (pI (pL M 82 (at_ + i) (f i)) 84 (at_ + i) 0) c g = gI M c g ∧ gL (pI (pL M 82 (at_ + i) (f i)) 84 (at_ + i) 0) c g = gL M c g := fun c g h1 h2 => by
      constructor <;> simp only [gI_pI, gI_pL, gI_pD, gI_pR, gI_pnw, gI_pcp, gL_pI, gL_pL, gL_pD, gL_pR, gL_pnw, gL_pcp, gD_pI, gD_pL, gD_pD, gD_pR, gD_pnw, gD_pcp, gR_pI, gR_pL, gR_pD, gR_pR, gR_pnw, gR_pcp, gz_pI, gz_pL, gz_pD, gz_pR, gz_pnw, gz_pcp] <;> rw [if_neg (by omega)]
    have e4 : ∀ j, gL (pI (pL M 82 (at_ + i) (f i)) 84 (at_ + i) 0) 71 j = gL M 71 j := fun j => by simp [gI_pI, gI_pL, gI_pD, gI_pR, gI_pnw, gI_pcp, gL_pI, gL_pL, gL_pD, gL_pR, gL_pnw, gL_pcp, gD_pI, gD_pL, gD_pD, gD_pR, gD_pnw, gD_pcp, gR_pI, gR_pL, gR_pD, gR_pR, gR_pnw, gR_pcp, gz_pI, gz_pL, gz_pD, gz_pR, gz_pnw, gz_pcp]
    generalize pI (pL M 82 (at_ + i) (f i)) 84 (at_ + i) 0 = M1 at g e1 e2 e3 e4
    refine d_lean_77 (f := f) ha hat hb d (i + 1) (by omega) (g.1.k0 hk) (fun j hj => by rw [e4]; exact hf j hj) fun M' g' h1 h2 h3 => hQ M' (g.trans g') (fun c x c1 c2 => ⟨(h1 c x c1 c2).1.trans (e3 c x c1 c2).1, (h1 c x c1 c2).2.trans (e3 c x c1 c2).2⟩) (fun j j1 j2 => ?_) (fun j hj => ?_)
    · by_cases e : j = i
      · subst e
        rw [(h3 (at_ + j) (by omega)).1, (h3 (at_ + j) (by omega)).2, e1, e2, if_pos rfl, if_pos rfl]
        exact ⟨rfl, rfl⟩
      · exact h2 j (by omega) j2
    · rw [(h3 j (by omega)).1, (h3 j (by omega)).2, e1, e2, if_neg (by omega), if_neg (by omega)]
      exact ⟨rfl, rfl⟩
/-- the piece that is made, of a kind -/
def pck (ki m E : Int) (f : Nat → Int) (n : Nat) : Pc := if ki = 2 then rndK (pcOf m E f n) else pcOf m E f n
theorem pcOf_line {m E : Int} {f : Nat → Int} {n : Nat} (h : n ≠ 1) : pln (pcOf m E f n) = lineOf m f (allF m f (n - 1)) := by unfold pln pcOf; simp [h]
theorem d_lean_18 {M : Im} {p a at_ n : Nat} {b m ki k0 E : Int} {f : Nat → Int} {Q : Im → Prop} (hk : K0 ≤ gz M) (hp : p < 10000) (ha : a + n ≤ 5000) (hat : at_ + n ≤ 12000) (hb : b = ((a + n : Nat) : Int)) (hn0 : 1 ≤ n) (hn : n ≤ 600) (hm : 0 ≤ m ∧ m ≤ 40) (hE : gI M 69 2 = E) (hf : okF f n) (hfi : ∀ j, j < n → gL M 71 (a + j) = f j) (hki : ki = 1 ∨ ki = 2) (hk0 : k0 = if n = 1 then 0 else ki)
    (hQ : ∀ M', PW p at_ n M M' → MP M' p at_ (pck ki m E f n) → Q M') : sp_X5_lean_18 69 p a b m ki at_ k0 p 74 M Q := by
  have w71 : alen 71 = 5000 := rfl
  have w74 : alen 74 = 10000 := rfl
  have w75 : alen 75 = 10000 := rfl
  have w76 : alen 76 = 10000 := rfl
  have w77 : alen 77 = 10000 := rfl
  have w78 : alen 78 = 10000 := rfl
  have w79 : alen 79 = 10000 := rfl
  have w80 : alen 80 = 10000 := rfl
  have w81 : alen 81 = 10000 := rfl
  unfold sp_X5_lean_18
  rw [show ((p : Nat) : Int).toNat = p by omega, w74, w75, w76, w77, w78, w79, w80, w81]
  refine ⟨by omega, ?_⟩
  rintro M1 rfl
  refine ⟨by omega, ?_⟩
  rintro M2 rfl
  refine ⟨by omega, by omega, ?_⟩
  rintro M3 rfl
  refine ⟨by omega, ?_⟩
  have e2 : gI (pI (pI (pI M 74 p k0) 75 p at_) 76 p (b - a)) 69 2 = E := by simp [gI_pI, gI_pL, gI_pD, gI_pR, gI_pnw, gI_pcp, gL_pI, gL_pL, gL_pD, gL_pR, gL_pnw, gL_pcp, gD_pI, gD_pL, gD_pD, gD_pR, gD_pnw, gD_pcp, gR_pI, gR_pL, gR_pD, gR_pR, gR_pnw, gR_pcp, gz_pI, gz_pL, gz_pD, gz_pR, gz_pnw, gz_pcp]; exact hE
  rw [e2]
  rintro M4 rfl
  refine ⟨by omega, ?_⟩
  rintro M5 rfl
  refine ⟨by omega, ?_⟩
  rintro M6 rfl
  refine ⟨by omega, ?_⟩
  rintro M7 rfl
  refine ⟨by omega, ?_⟩
  rintro M8 rfl
  have g : PW p at_ n M (pL (pL (pL (pI (pI (pI (pI (pI M 74 p k0) 75 p at_) 76 p (b - a)) 77 p E) 78 p 0) 79 p 0) 80 p 1) 81 p 0) :=
    ((((((((PW.refl (p := p) (at_ := at_) (n := n) (M := M)).pI (by omega) (by omega)).pI (by omega) (by omega)).pI (by omega) (by omega)).pI (by omega) (by omega)).pI (by omega) (by omega)).pL (by omega) (by omega)).pL (by omega) (by omega)).pL (by omega) (by omega)
  have z74 : gI (pL (pL (pL (pI (pI (pI (pI (pI M 74 p k0) 75 p at_) 76 p (b - a)) 77 p E) 78 p 0) 79 p 0) 80 p 1) 81 p 0) 74 p = k0 := by simp [gI_pI, gI_pL, gI_pD, gI_pR, gI_pnw, gI_pcp, gL_pI, gL_pL, gL_pD, gL_pR, gL_pnw, gL_pcp, gD_pI, gD_pL, gD_pD, gD_pR, gD_pnw, gD_pcp, gR_pI, gR_pL, gR_pD, gR_pR, gR_pnw, gR_pcp, gz_pI, gz_pL, gz_pD, gz_pR, gz_pnw, gz_pcp]
  have z75 : gI (pL (pL (pL (pI (pI (pI (pI (pI M 74 p k0) 75 p at_) 76 p (b - a)) 77 p E) 78 p 0) 79 p 0) 80 p 1) 81 p 0) 75 p = at_ := by simp [gI_pI, gI_pL, gI_pD, gI_pR, gI_pnw, gI_pcp, gL_pI, gL_pL, gL_pD, gL_pR, gL_pnw, gL_pcp, gD_pI, gD_pL, gD_pD, gD_pR, gD_pnw, gD_pcp, gR_pI, gR_pL, gR_pD, gR_pR, gR_pnw, gR_pcp, gz_pI, gz_pL, gz_pD, gz_pR, gz_pnw, gz_pcp]
  have z76 : gI (pL (pL (pL (pI (pI (pI (pI (pI M 74 p k0) 75 p at_) 76 p (b - a)) 77 p E) 78 p 0) 79 p 0) 80 p 1) 81 p 0) 76 p = (n : Nat) := by simp [gI_pI, gI_pL, gI_pD, gI_pR, gI_pnw, gI_pcp, gL_pI, gL_pL, gL_pD, gL_pR, gL_pnw, gL_pcp, gD_pI, gD_pL, gD_pD, gD_pR, gD_pnw, gD_pcp, gR_pI, gR_pL, gR_pD, gR_pR, gR_pnw, gR_pcp, gz_pI, gz_pL, gz_pD, gz_pR, gz_pnw, gz_pcp]; omega
  have z77 : gI (pL (pL (pL (pI (pI (pI (pI (pI M 74 p k0) 75 p at_) 76 p (b - a)) 77 p E) 78 p 0) 79 p 0) 80 p 1) 81 p 0) 77 p = E := by simp [gI_pI, gI_pL, gI_pD, gI_pR, gI_pnw, gI_pcp, gL_pI, gL_pL, gL_pD, gL_pR, gL_pnw, gL_pcp, gD_pI, gD_pL, gD_pD, gD_pR, gD_pnw, gD_pcp, gR_pI, gR_pL, gR_pD, gR_pR, gR_pnw, gR_pcp, gz_pI, gz_pL, gz_pD, gz_pR, gz_pnw, gz_pcp]
  have z78 : gI (pL (pL (pL (pI (pI (pI (pI (pI M 74 p k0) 75 p at_) 76 p (b - a)) 77 p E) 78 p 0) 79 p 0) 80 p 1) 81 p 0) 78 p = 0 := by simp [gI_pI, gI_pL, gI_pD, gI_pR, gI_pnw, gI_pcp, gL_pI, gL_pL, gL_pD, gL_pR, gL_pnw, gL_pcp, gD_pI, gD_pL, gD_pD, gD_pR, gD_pnw, gD_pcp, gR_pI, gR_pL, gR_pD, gR_pR, gR_pnw, gR_pcp, gz_pI, gz_pL, gz_pD, gz_pR, gz_pnw, gz_pcp]
  have z79 : gL (pL (pL (pL (pI (pI (pI (pI (pI M 74 p k0) 75 p at_) 76 p (b - a)) 77 p E) 78 p 0) 79 p 0) 80 p 1) 81 p 0) 79 p = 0 := by simp [gI_pI, gI_pL, gI_pD, gI_pR, gI_pnw, gI_pcp, gL_pI, gL_pL, gL_pD, gL_pR, gL_pnw, gL_pcp, gD_pI, gD_pL, gD_pD, gD_pR, gD_pnw, gD_pcp, gR_pI, gR_pL, gR_pD, gR_pR, gR_pnw, gR_pcp, gz_pI, gz_pL, gz_pD, gz_pR, gz_pnw, gz_pcp]
  have z80 : gL (pL (pL (pL (pI (pI (pI (pI (pI M 74 p k0) 75 p at_) 76 p (b - a)) 77 p E) 78 p 0) 79 p 0) 80 p 1) 81 p 0) 80 p = 1 := by simp [gI_pI, gI_pL, gI_pD, gI_pR, gI_pnw, gI_pcp, gL_pI, gL_pL, gL_pD, gL_pR, gL_pnw, gL_pcp, gD_pI, gD_pL, gD_pD, gD_pR, gD_pnw, gD_pcp, gR_pI, gR_pL, gR_pD, gR_pR, gR_pnw, gR_pcp, gz_pI, gz_pL, gz_pD, gz_pR, gz_pnw, gz_pcp]
  have z81 : gL (pL (pL (pL (pI (pI (pI (pI (pI M 74 p k0) 75 p at_) 76 p (b - a)) 77 p E) 78 p 0) 79 p 0) 80 p 1) 81 p 0) 81 p = 0 := by simp [gI_pI, gI_pL, gI_pD, gI_pR, gI_pnw, gI_pcp, gL_pI, gL_pL, gL_pD, gL_pR, gL_pnw, gL_pcp, gD_pI, gD_pL, gD_pD, gD_pR, gD_pnw, gD_pcp, gR_pI, gR_pL, gR_pD, gR_pR, gR_pnw, gR_pcp, gz_pI, gz_pL, gz_pD, gz_pR, gz_pnw, gz_pcp]
  generalize pL (pL (pL (pI (pI (pI (pI (pI M 74 p k0) 75 p at_) 76 p (b - a)) 77 p E) 78 p 0) 79 p 0) 80 p 1) 81 p 0 = M8 at g z74 z75 z76 z77 z78 z79 z80 z81
  have k8 := g.1.k0 hk
  have p8 : ∀ j, j < n → gL M8 71 (a + j) = f j := fun j hj => by rw [g.1.L (by omega)]; exact hfi j hj
  refine ⟨n + 1, ?_⟩
  have key := d_lean_77 (p := p) (a := a) (at_ := at_) (n := n) (b := b) (m := m) (ki := ki) (f := f) (Q := Q) (K := fun (x0 : Nat) (x1 : Int) (x2 : Int) (x3 : Int) (x4 : Int) (x5 : Int) (M : Im) =>
    (-2147483648 ≤ x3 - x2 ∧ x3 - x2 < 2147483648) ∧
    (¬ (x3 - x2) = 1 →
    sp_X5_passed x0 x2 x3 x4 M (fun (i13 : Int) (M12 : Im) =>
    sp_X5_divisor x0 (gL M12 x0 4) (gL M12 x0 5) M12 (fun (j15 : Int) (M14 : Im) =>
    ¬ j15 = 0 ∧
    (0 ≤ x1 ∧ x1 < ((alen 79) : Int)) ∧
    (-9223372036854775808 ≤ (gL M14 x0 4).tdiv j15 ∧ (gL M14 x0 4).tdiv j15 < 9223372036854775808) ∧
    ∀ M16 : Im, M16 = pL M14 79 x1.toNat ((gL M14 x0 4).tdiv j15) →
    ¬ j15 = 0 ∧
    (0 ≤ x1 ∧ x1 < ((alen 80) : Int)) ∧
    (-9223372036854775808 ≤ (gL M16 x0 5).tdiv j15 ∧ (gL M16 x0 5).tdiv j15 < 9223372036854775808) ∧
    ∀ M17 : Im, M17 = pL M16 80 x1.toNat ((gL M16 x0 5).tdiv j15) →
    (0 ≤ x1 ∧ x1 < ((alen 80) : Int)) ∧
    (0 ≤ x1 ∧ x1 < ((alen 79) : Int)) ∧
    (0 ≤ gI M17 x0 8 ∧ gI M17 x0 8 < ((alen 71) : Int)) ∧
    (0 ≤ x2 ∧ x2 < ((alen 71) : Int)) ∧
    (0 ≤ x1 ∧ x1 < ((alen 81) : Int)) ∧
    (-2147483648 ≤ (gI M17 x0 8) - x2 ∧ (gI M17 x0 8) - x2 < 2147483648) ∧
    (-2147483648 ≤ ((gI M17 x0 8) - x2) - x4 ∧ ((gI M17 x0 8) - x2) - x4 < 2147483648) ∧
    (-9223372036854775808 ≤ (gL M17 80 x1.toNat) * (((gI M17 x0 8) - x2) - x4) ∧ (gL M17 80 x1.toNat) * (((gI M17 x0 8) - x2) - x4) < 9223372036854775808) ∧
    (-9223372036854775808 ≤ (gL M17 71 (gI M17 x0 8).toNat) - (gL M17 71 x2.toNat) ∧ (gL M17 71 (gI M17 x0 8).toNat) - (gL M17 71 x2.toNat) < 9223372036854775808) ∧
    (-9223372036854775808 ≤ (gL M17 79 x1.toNat) * ((gL M17 71 (gI M17 x0 8).toNat) - (gL M17 71 x2.toNat)) ∧ (gL M17 79 x1.toNat) * ((gL M17 71 (gI M17 x0 8).toNat) - (gL M17 71 x2.toNat)) < 9223372036854775808) ∧
    (-9223372036854775808 ≤ ((gL M17 80 x1.toNat) * (((gI M17 x0 8) - x2) - x4)) - ((gL M17 79 x1.toNat) * ((gL M17 71 (gI M17 x0 8).toNat) - (gL M17 71 x2.toNat))) ∧ ((gL M17 80 x1.toNat) * (((gI M17 x0 8) - x2) - x4)) - ((gL M17 79 x1.toNat) * ((gL M17 71 (gI M17 x0 8).toNat) - (gL M17 71 x2.toNat))) < 9223372036854775808) ∧
    ∀ M18 : Im, M18 = pL M17 81 x1.toNat (((gL M17 80 x1.toNat) * (((gI M17 x0 8) - x2) - x4)) - ((gL M17 79 x1.toNat) * ((gL M17 71 (gI M17 x0 8).toNat) - (gL M17 71 x2.toNat)))) →
    (¬ x5 = 2 →
    Q M18) ∧
    (x5 = 2 →
    sp_X5_miss x0 x1 M18 (fun (i20 : Int) (M19 : Im) =>
    (i20 ≤ (gI M19 x0 2) →
    Q M19) ∧
    ((gI M19 x0 2) < i20 →
    (0 ≤ x1 ∧ x1 < ((alen 74) : Int)) ∧
    ∀ M21 : Im, M21 = pI M19 74 x1.toNat 1 →
    Q M21)))))) ∧
    ((x3 - x2) = 1 →
    Q M)) ha hat hb n 0 (M := M8) (by omega) k8 p8 (fun M9 g9 c9 r9 _ => ?_)
  · exact key
  have G9 := g.trans g9
  have k9 := G9.1.k0 hk
  have p9 : ∀ j, j < n → gL M9 71 (a + j) = f j := fun j hj => by rw [g9.1.L (by omega)]; exact p8 j hj
  have len1 : (pks (pcOf m E f n)).length = n := len_pcOf m E f n
  have rows : ∀ Mz, (∀ j, j < n → gL Mz 82 (at_ + j) = f j ∧ gI Mz 84 (at_ + j) = 0) → ∀ j, j < n → gL Mz 82 (at_ + j) = kf (pcOf m E f n) j ∧ gI Mz 84 (at_ + j) = df (pcOf m E f n) j := fun Mz h j hj => by
    rw [kf_pcOf hj, df_pcOf hj]; exact h j hj
  refine ⟨by omega, fun h1 => ?_, fun h1 => ?_⟩
  · have hn1 : n ≠ 1 := by omega
    rw [if_neg hn1] at hk0
    have huo := UpOk_allF hf hm.1 (n - 2) (by omega)
    rw [show n - 2 + 1 = n - 1 by omega] at huo
    have hsb := StB_allF hf hn hm (n - 1) (by omega)
    have hpl := pcOf_line (m := m) (E := E) (f := f) hn1
    have okp := pok_pcOf (E := E) hf hn0 hn hm
    rw [hb, show ((a + n : Nat) : Int) = (a : Int) + (n : Nat) by omega]
    refine d_passed k9 (by omega) hn ha hm hf p9 fun r M12 g12 c12 hs => ?_
    generalize hse : allF m f (n - 1) = s at *
    obtain ⟨⟨l1, l2, l3, l4, l5, l6⟩, lb, lc⟩ := line_bd hf hn hm hsb huo
    obtain ⟨u1, u2, u3⟩ := huo
    have hb' := hsb
    unfold StB at hb'
    rcases hs with ⟨-, -, hs0⟩ | ⟨v1, v2, v3, v4, v5, -, -⟩
    · subst hs0; unfold s0 at u2; simp at u2
    rw [v3, v4, show s.1 = (s.1.toNat : Int) by omega, show s.2.1 = (s.2.1.toNat : Int) by omega]
    refine d_divisor (g12.k0 k9) (by omega) (by omega) ?_
    have hg := gcd_pos' (b := s.2.1) u1
    have ek1 := hf.1 s.2.2.1.toNat (by omega)
    have ek2 := hf.1 0 (by omega)
    unfold lineOf at hpl l1 l2 l3 l4 l5 l6
    dsimp only at l1 l2 l3 l4 l5 l6
    generalize Nat.gcd s.1.toNat s.2.1.toNat = gc at *
    have d1 := ediv_bd (a := s.1) (g := gc) (by omega)
    have d2 := ediv_bd (a := s.2.1) (g := gc) (by omega)
    have t1 : s.1.tdiv (gc : Int) = s.1 / (gc : Int) := Int.tdiv_eq_ediv_of_nonneg (by omega)
    have t2 : s.2.1.tdiv (gc : Int) = s.2.1 / (gc : Int) := Int.tdiv_eq_ediv_of_nonneg (by omega)
    have G12 : PW p at_ n M M12 := G9.trans (PW.ofAg69 g12 c12)
    rw [v3, t1, show ((p : Nat) : Int).toNat = p by omega, w79, w80, w71, w81]
    refine ⟨by omega, by omega, by omega, ?_⟩
    rintro M16 rfl
    have e16 : gL (pL M12 79 p (s.1 / (gc : Int))) 69 5 = s.2.1 := by simp [gI_pI, gI_pL, gI_pD, gI_pR, gI_pnw, gI_pcp, gL_pI, gL_pL, gL_pD, gL_pR, gL_pnw, gL_pcp, gD_pI, gD_pL, gD_pD, gD_pR, gD_pnw, gD_pcp, gR_pI, gR_pL, gR_pD, gR_pR, gR_pnw, gR_pcp, gz_pI, gz_pL, gz_pD, gz_pR, gz_pnw, gz_pcp]; exact v4
    rw [e16, t2]
    refine ⟨by omega, by omega, by omega, ?_⟩
    rintro M17 rfl
    have G17 : PW p at_ n M (pL (pL M12 79 p (s.1 / (gc : Int))) 80 p (s.2.1 / (gc : Int))) := (G12.pL (by omega) (by omega)).pL (by omega) (by omega)
    have f8 : gI (pL (pL M12 79 p (s.1 / (gc : Int))) 80 p (s.2.1 / (gc : Int))) 69 8 = s.2.2.1 + a := by simp [gI_pI, gI_pL, gI_pD, gI_pR, gI_pnw, gI_pcp, gL_pI, gL_pL, gL_pD, gL_pR, gL_pnw, gL_pcp, gD_pI, gD_pL, gD_pD, gD_pR, gD_pnw, gD_pcp, gR_pI, gR_pL, gR_pD, gR_pR, gR_pnw, gR_pcp, gz_pI, gz_pL, gz_pD, gz_pR, gz_pnw, gz_pcp]; exact v5
    have f79 : gL (pL (pL M12 79 p (s.1 / (gc : Int))) 80 p (s.2.1 / (gc : Int))) 79 p = s.1 / (gc : Int) := by simp [gI_pI, gI_pL, gI_pD, gI_pR, gI_pnw, gI_pcp, gL_pI, gL_pL, gL_pD, gL_pR, gL_pnw, gL_pcp, gD_pI, gD_pL, gD_pD, gD_pR, gD_pnw, gD_pcp, gR_pI, gR_pL, gR_pD, gR_pR, gR_pnw, gR_pcp, gz_pI, gz_pL, gz_pD, gz_pR, gz_pnw, gz_pcp]
    have f80 : gL (pL (pL M12 79 p (s.1 / (gc : Int))) 80 p (s.2.1 / (gc : Int))) 80 p = s.2.1 / (gc : Int) := by simp [gI_pI, gI_pL, gI_pD, gI_pR, gI_pnw, gI_pcp, gL_pI, gL_pL, gL_pD, gL_pR, gL_pnw, gL_pcp, gD_pI, gD_pL, gD_pD, gD_pR, gD_pnw, gD_pcp, gR_pI, gR_pL, gR_pD, gR_pR, gR_pnw, gR_pcp, gz_pI, gz_pL, gz_pD, gz_pR, gz_pnw, gz_pcp]
    have f71 : ∀ j, j < n → gL (pL (pL M12 79 p (s.1 / (gc : Int))) 80 p (s.2.1 / (gc : Int))) 71 (a + j) = f j := fun j hj => by simp [gI_pI, gI_pL, gI_pD, gI_pR, gI_pnw, gI_pcp, gL_pI, gL_pL, gL_pD, gL_pR, gL_pnw, gL_pcp, gD_pI, gD_pL, gD_pD, gD_pR, gD_pnw, gD_pcp, gR_pI, gR_pL, gR_pD, gR_pR, gR_pnw, gR_pcp, gz_pI, gz_pL, gz_pD, gz_pR, gz_pnw, gz_pcp]; rw [g12.L (by omega)]; exact p9 j hj
    have fI : ∀ c x, c ≠ 69 → gI (pL (pL M12 79 p (s.1 / (gc : Int))) 80 p (s.2.1 / (gc : Int))) c x = gI M9 c x := fun c x hc => by simp only [gI_pI, gI_pL, gI_pD, gI_pR, gI_pnw, gI_pcp, gL_pI, gL_pL, gL_pD, gL_pR, gL_pnw, gL_pcp, gD_pI, gD_pL, gD_pD, gD_pR, gD_pnw, gD_pcp, gR_pI, gR_pL, gR_pD, gR_pR, gR_pnw, gR_pcp, gz_pI, gz_pL, gz_pD, gz_pR, gz_pnw, gz_pcp]; exact g12.I hc x
    have fL : ∀ c x, c ≠ 69 → c ≠ 79 → c ≠ 80 → gL (pL (pL M12 79 p (s.1 / (gc : Int))) 80 p (s.2.1 / (gc : Int))) c x = gL M9 c x := fun c x hc h79 h80 => by simp only [gI_pI, gI_pL, gI_pD, gI_pR, gI_pnw, gI_pcp, gL_pI, gL_pL, gL_pD, gL_pR, gL_pnw, gL_pcp, gD_pI, gD_pL, gD_pD, gD_pR, gD_pnw, gD_pcp, gR_pI, gR_pL, gR_pD, gR_pR, gR_pnw, gR_pcp, gz_pI, gz_pL, gz_pD, gz_pR, gz_pnw, gz_pcp]; rw [if_neg (by omega), if_neg (by omega)]; exact g12.L hc x
    generalize pL (pL M12 79 p (s.1 / (gc : Int))) 80 p (s.2.1 / (gc : Int)) = M17 at G17 f8 f79 f80 f71 fI fL
    rw [f8, f79, f80, show (s.2.2.1 + (a : Int)).toNat = a + s.2.2.1.toNat by omega, show ((a : Nat) : Int).toNat = a + 0 by omega, f71 _ (by omega), f71 _ (by omega), show s.2.2.1 + (a : Int) - (a : Int) = s.2.2.1 by omega]
    refine ⟨by omega, by omega, by omega, by omega, by omega, by omega, by omega, by omega, by omega, by omega, by omega, ?_⟩
    rintro M18 rfl
    have G18 : PW p at_ n M (pL M17 81 p (s.2.1 / (gc : Int) * (s.2.2.1 - m) - s.1 / (gc : Int) * (f s.2.2.1.toNat - f 0))) := G17.pL (by omega) (by omega)
    have h79 : gL (pL M17 81 p (s.2.1 / (gc : Int) * (s.2.2.1 - m) - s.1 / (gc : Int) * (f s.2.2.1.toNat - f 0))) 79 p = s.1 / (gc : Int) := by simp [gI_pI, gI_pL, gI_pD, gI_pR, gI_pnw, gI_pcp, gL_pI, gL_pL, gL_pD, gL_pR, gL_pnw, gL_pcp, gD_pI, gD_pL, gD_pD, gD_pR, gD_pnw, gD_pcp, gR_pI, gR_pL, gR_pD, gR_pR, gR_pnw, gR_pcp, gz_pI, gz_pL, gz_pD, gz_pR, gz_pnw, gz_pcp]; exact f79
    have h80 : gL (pL M17 81 p (s.2.1 / (gc : Int) * (s.2.2.1 - m) - s.1 / (gc : Int) * (f s.2.2.1.toNat - f 0))) 80 p = s.2.1 / (gc : Int) := by simp [gI_pI, gI_pL, gI_pD, gI_pR, gI_pnw, gI_pcp, gL_pI, gL_pL, gL_pD, gL_pR, gL_pnw, gL_pcp, gD_pI, gD_pL, gD_pD, gD_pR, gD_pnw, gD_pcp, gR_pI, gR_pL, gR_pD, gR_pR, gR_pnw, gR_pcp, gz_pI, gz_pL, gz_pD, gz_pR, gz_pnw, gz_pcp]; exact f80
    have h81 : gL (pL M17 81 p (s.2.1 / (gc : Int) * (s.2.2.1 - m) - s.1 / (gc : Int) * (f s.2.2.1.toNat - f 0))) 81 p = s.2.1 / (gc : Int) * (s.2.2.1 - m) - s.1 / (gc : Int) * (f s.2.2.1.toNat - f 0) := by simp [gI_pI, gI_pL, gI_pD, gI_pR, gI_pnw, gI_pcp, gL_pI, gL_pL, gL_pD, gL_pR, gL_pnw, gL_pcp, gD_pI, gD_pL, gD_pD, gD_pR, gD_pnw, gD_pcp, gR_pI, gR_pL, gR_pD, gR_pR, gR_pnw, gR_pcp, gz_pI, gz_pL, gz_pD, gz_pR, gz_pnw, gz_pcp]
    have hI : ∀ c x, c ≠ 69 → gI (pL M17 81 p (s.2.1 / (gc : Int) * (s.2.2.1 - m) - s.1 / (gc : Int) * (f s.2.2.1.toNat - f 0))) c x = gI M9 c x := fun c x hc => by simp only [gI_pI, gI_pL, gI_pD, gI_pR, gI_pnw, gI_pcp, gL_pI, gL_pL, gL_pD, gL_pR, gL_pnw, gL_pcp, gD_pI, gD_pL, gD_pD, gD_pR, gD_pnw, gD_pcp, gR_pI, gR_pL, gR_pD, gR_pR, gR_pnw, gR_pcp, gz_pI, gz_pL, gz_pD, gz_pR, gz_pnw, gz_pcp]; exact fI c x hc
    have hL : ∀ x, gL (pL M17 81 p (s.2.1 / (gc : Int) * (s.2.2.1 - m) - s.1 / (gc : Int) * (f s.2.2.1.toNat - f 0))) 82 x = gL M9 82 x := fun x => by simp only [gI_pI, gI_pL, gI_pD, gI_pR, gI_pnw, gI_pcp, gL_pI, gL_pL, gL_pD, gL_pR, gL_pnw, gL_pcp, gD_pI, gD_pL, gD_pD, gD_pR, gD_pnw, gD_pcp, gR_pI, gR_pL, gR_pD, gR_pR, gR_pnw, gR_pcp, gz_pI, gz_pL, gz_pD, gz_pR, gz_pnw, gz_pcp]; rw [if_neg (by omega)]; exact fL 82 x (by omega) (by omega) (by omega)
    generalize pL M17 81 p (s.2.1 / (gc : Int) * (s.2.2.1 - m) - s.1 / (gc : Int) * (f s.2.2.1.toNat - f 0)) = M18 at G18 h79 h80 h81 hI hL
    have hP18 : ∀ q : Pc, q.1.2 = (pcOf m E f n).1.2 → q.2 = (pcOf m E f n).2 → gI M18 74 p = pki q → MP M18 p at_ q := by
      intro q hq1 hq2 hq3
      have x2 : pks q = pks (pcOf m E f n) := congrArg Prod.fst hq2
      have x3 : plt q = [] := congrArg Prod.snd hq2
      have x4 : pma q = E := congrArg Prod.fst hq1
      have x5 : pln q = pln (pcOf m E f n) := congrArg Prod.snd hq1
      refine ⟨⟨hq3, ?_, ?_, ?_, ?_⟩, ⟨?_, ?_, ?_⟩, fun j hj => ?_, fun j hj => ?_⟩
      · rw [hI 75 p (by omega), (c9 75 p (by omega) (by omega)).1, z75]
      · rw [hI 76 p (by omega), (c9 76 p (by omega) (by omega)).1, z76, x2, len1]
      · rw [hI 77 p (by omega), (c9 77 p (by omega) (by omega)).1, z77, x4]
      · rw [hI 78 p (by omega), (c9 78 p (by omega) (by omega)).1, z78, x3]; rfl
      · rw [h79, x5, hpl]
      · rw [h80, x5, hpl]
      · rw [h81, x5, hpl]
      · rw [x2, len1] at hj
        unfold kf df
        rw [x2]
        have := rows M9 (fun j hj => r9 j (Nat.zero_le _) hj) j hj
        rw [hL, hI 84 _ (by omega)]
        exact this
      · rw [x3] at hj; exact absurd hj (Nat.not_lt_zero _)
    have k18 : gI M18 74 p = k0 := by rw [hI 74 p (by omega), (c9 74 p (by omega) (by omega)).1, z74]
    have kp : pki (pcOf m E f n) = 1 := by unfold pki pcOf; simp [hn1]
    refine ⟨fun h2 => ?_, fun h2 => ?_⟩
    · have : pck ki m E f n = pcOf m E f n := by unfold pck; rw [if_neg h2]
      rw [this] at hQ
      exact hQ M18 G18 (hP18 _ rfl rfl (by rw [k18, kp]; omega))
    · have epk : pck ki m E f n = rnd (pcOf m E f n) := by unfold pck rndK; rw [if_pos h2, if_pos kp]
      rw [epk] at hQ
      have P2 : MP M18 p at_ (asKind 2 (pcOf m E f n)) := hP18 _ rfl rfl (by rw [k18, hk0, h2]; rfl)
      have k18' := G18.1.k0 hk
      have E18 : gI M18 69 2 = E := by rw [G18.2.1 2 (by omega)]; exact hE
      refine d_miss k18' hp P2 (by show at_ + (pks (pcOf m E f n)).length ≤ 12000; omega) okp.1 (Or.inr (Or.inr rfl)) okp.2.2.1 ⟨fun h3 => ?_, fun h3 => ⟨by omega, ?_⟩⟩
      · rw [E18] at h3
        refine hQ M18 G18 ?_
        unfold rnd
        rw [if_pos (show gm (asKind 2 (pcOf m E f n)) ≤ pma (pcOf m E f n) from h3)]
        exact P2
      · rintro M21 rfl
        rw [E18] at h3
        refine hQ _ (G18.pI (by omega) (by omega)) ?_
        unfold rnd
        rw [if_neg (show ¬ gm (asKind 2 (pcOf m E f n)) ≤ pma (pcOf m E f n) from fun h => by have : pma (pcOf m E f n) = E := rfl; omega)]
        obtain ⟨⟨a0, a1, a2, a3, a4⟩, ⟨a6, a7, a8⟩, b1, b2⟩ := P2
        refine ⟨⟨by simp [gI_pI, gI_pL, gI_pD, gI_pR, gI_pnw, gI_pcp, gL_pI, gL_pL, gL_pD, gL_pR, gL_pnw, gL_pcp, gD_pI, gD_pL, gD_pD, gD_pR, gD_pnw, gD_pcp, gR_pI, gR_pL, gR_pD, gR_pR, gR_pnw, gR_pcp, gz_pI, gz_pL, gz_pD, gz_pR, gz_pnw, gz_pcp, asKind, pki], by simp [gI_pI, gI_pL, gI_pD, gI_pR, gI_pnw, gI_pcp, gL_pI, gL_pL, gL_pD, gL_pR, gL_pnw, gL_pcp, gD_pI, gD_pL, gD_pD, gD_pR, gD_pnw, gD_pcp, gR_pI, gR_pL, gR_pD, gR_pR, gR_pnw, gR_pcp, gz_pI, gz_pL, gz_pD, gz_pR, gz_pnw, gz_pcp]; exact a1, by simp [gI_pI, gI_pL, gI_pD, gI_pR, gI_pnw, gI_pcp, gL_pI, gL_pL, gL_pD, gL_pR, gL_pnw, gL_pcp, gD_pI, gD_pL, gD_pD, gD_pR, gD_pnw, gD_pcp, gR_pI, gR_pL, gR_pD, gR_pR, gR_pnw, gR_pcp, gz_pI, gz_pL, gz_pD, gz_pR, gz_pnw, gz_pcp]; exact a2, by simp [gI_pI, gI_pL, gI_pD, gI_pR, gI_pnw, gI_pcp, gL_pI, gL_pL, gL_pD, gL_pR, gL_pnw, gL_pcp, gD_pI, gD_pL, gD_pD, gD_pR, gD_pnw, gD_pcp, gR_pI, gR_pL, gR_pD, gR_pR, gR_pnw, gR_pcp, gz_pI, gz_pL, gz_pD, gz_pR, gz_pnw, gz_pcp]; exact a3, by simp [gI_pI, gI_pL, gI_pD, gI_pR, gI_pnw, gI_pcp, gL_pI, gL_pL, gL_pD, gL_pR, gL_pnw, gL_pcp, gD_pI, gD_pL, gD_pD, gD_pR, gD_pnw, gD_pcp, gR_pI, gR_pL, gR_pD, gR_pR, gR_pnw, gR_pcp, gz_pI, gz_pL, gz_pD, gz_pR, gz_pnw, gz_pcp]; exact a4⟩, ⟨a6, a7, a8⟩, fun j hj => ?_, fun j hj => b2 j hj⟩
        simp only [gI_pI, gI_pL, gI_pD, gI_pR, gI_pnw, gI_pcp, gL_pI, gL_pL, gL_pD, gL_pR, gL_pnw, gL_pcp, gD_pI, gD_pL, gD_pD, gD_pR, gD_pnw, gD_pcp, gR_pI, gR_pL, gR_pD, gR_pR, gR_pnw, gR_pcp, gz_pI, gz_pL, gz_pD, gz_pR, gz_pnw, gz_pcp]
        rw [if_neg (by omega)]
        exact b1 j hj
  · have hn1 : n = 1 := by omega
    rw [if_pos hn1] at hk0
    have ep : pck ki m E f n = pcOf m E f n := by
      unfold pck rndK
      have : pki (pcOf m E f n) = 0 := by unfold pki pcOf; simp [hn1]
      split
      · rw [if_neg (by omega)]
      · rfl
    rw [ep] at hQ
    refine hQ M9 G9 ⟨⟨?_, ?_, ?_, ?_, ?_⟩, ⟨?_, ?_, ?_⟩, fun j hj => ?_, fun j hj => ?_⟩
    · rw [(c9 74 p (by omega) (by omega)).1, z74, hk0]; unfold pki pcOf; simp [hn1]
    · rw [(c9 75 p (by omega) (by omega)).1, z75]
    · rw [(c9 76 p (by omega) (by omega)).1, z76, len1]
    · rw [(c9 77 p (by omega) (by omega)).1, z77]; rfl
    · rw [(c9 78 p (by omega) (by omega)).1, z78]; rfl
    · rw [(c9 79 p (by omega) (by omega)).2, z79]; unfold pln pcOf; simp [hn1]
    · rw [(c9 80 p (by omega) (by omega)).2, z80]; unfold pln pcOf; simp [hn1]
    · rw [(c9 81 p (by omega) (by omega)).2, z81]; unfold pln pcOf; simp [hn1]
    · rw [len1] at hj
      exact rows M9 (fun j hj => r9 j (Nat.zero_le _) hj) j hj
    · exact absurd hj (Nat.not_lt_zero _)
theorem d_lean {M : Im} {p a at_ n : Nat} {m ki E : Int} {f : Nat → Int} {Q : Im → Prop} (hk : K0 ≤ gz M) (hp : p < 10000) (ha : a + n ≤ 5000) (hat : at_ + n ≤ 12000) (hn0 : 1 ≤ n) (hn : n ≤ 600) (hm : 0 ≤ m ∧ m ≤ 40) (hE : gI M 69 2 = E) (hf : okF f n) (hfi : ∀ j, j < n → gL M 71 (a + j) = f j) (hki : ki = 1 ∨ ki = 2)
    (hQ : ∀ M', PW p at_ n M M' → MP M' p at_ (pck ki m E f n) → Q M') : sp_X5_lean 69 p a ((a + n : Nat) : Int) m ki at_ M Q := by
  unfold sp_X5_lean
  refine ⟨iO_c hk (by decide) rfl, by omega, fun h => ?_, fun h => ?_⟩
  · exact d_lean_18 hk hp ha hat rfl hn0 hn hm hE hf hfi hki (by rw [if_neg (by omega)]) hQ
  · exact d_lean_18 hk hp ha hat rfl hn0 hn hm hE hf hfi hki (by rw [if_pos (by omega)]) hQ
