/-! ===== pieces made of keys ===== -/
/-- the piece of the first n keys of f -/
def pcOf (m E : Int) (f : Nat → Int) (n : Nat) : Pc :=
  ((if n = 1 then 0 else 1, E, if n = 1 then (0, 1, 0) else lineOf m f (allF m f (n - 1))), (List.range n).map (fun i => (f i, (0 : Int))), [])
def mkGo (m E : Int) : Nat → (Nat → Int) → Nat → List Pc
  | 0, _, _ => []
  | d + 1, f, n => if n = 0 then [] else pcOf m E f (spanLen m f n) :: mkGo m E d (fun i => f (spanLen m f n + i)) (n - spanLen m f n)
def mk (m E : Int) (f : Nat → Int) (n : Nat) : List Pc := mkGo m E n f n
theorem len_pcOf (m E : Int) (f : Nat → Int) (n : Nat) : (pks (pcOf m E f n)).length = n := by unfold pks pcOf; simp
theorem kf_pcOf {m E : Int} {f : Nat → Int} {n i : Nat} (h : i < n) : kf (pcOf m E f n) i = f i := by unfold kf pks pcOf; simp [h]
theorem df_pcOf {m E : Int} {f : Nat → Int} {n i : Nat} (h : i < n) : df (pcOf m E f n) i = 0 := by unfold df pks pcOf; simp [h]
theorem ksum_mkGo (m E : Int) : ∀ (d : Nat) (f : Nat → Int) (n : Nat), n ≤ d → ksum (mkGo m E d f n) = n
  | 0, f, n, h => by
    obtain rfl : n = 0 := by omega
    rfl
  | d + 1, f, n, h => by
    unfold mkGo
    split
    · rename_i h0; rw [h0]; rfl
    · have h1 := spanLen_pos (m := m) (f := f) (n := n) (by omega)
      rw [ksum_cons, len_pcOf, ksum_mkGo m E d _ _ (by omega)]
      omega
theorem tsum_mkGo (m E : Int) : ∀ (d : Nat) (f : Nat → Int) (n : Nat), tsum (mkGo m E d f n) = 0
  | 0, f, n => rfl
  | d + 1, f, n => by
    unfold mkGo
    split
    · rfl
    · rw [tsum_cons, tsum_mkGo m E d _ _]; rfl
theorem len_mkGo (m E : Int) : ∀ (d : Nat) (f : Nat → Int) (n : Nat), (mkGo m E d f n).length ≤ n
  | 0, f, n => Nat.zero_le _
  | d + 1, f, n => by
    unfold mkGo
    split
    · exact Nat.zero_le _
    · have h1 := spanLen_pos (m := m) (f := f) (n := n) (by omega)
      have h2 := len_mkGo m E d (fun i => f (spanLen m f n + i)) (n - spanLen m f n)
      simp only [List.length_cons]
      omega
/-! what belongs to a tier; what a method on it may change -/
def own (M : Im) (t b : Nat) : Prop := ∃ p, p < cap t ∧ gR M (t + 4) p = some b
def Fr (S0 : Nat → Prop) (t : Nat) (M M' : Im) : Prop := AgL (fun b => S0 b ∨ (t ≤ b ∧ b ≤ t + 4) ∨ own M' t b) M M' ∧ ∀ b, own M t b → own M' t b
theorem Fr.refl {S0 : Nat → Prop} {t : Nat} {M : Im} : Fr S0 t M M := ⟨AgL.refl, fun _ h => h⟩
theorem Fr.trans {S0 : Nat → Prop} {t : Nat} {M M' M'' : Im} (h : Fr S0 t M M') (h' : Fr S0 t M' M'') : Fr S0 t M M'' :=
  ⟨(h.1.mono (fun b hb => hb.elim Or.inl fun w => w.elim (fun v => Or.inr (Or.inl v)) fun v => Or.inr (Or.inr (h'.2 b v)))).trans h'.1, fun b hb => h'.2 b (h.2 b hb)⟩
theorem Fr.ofAg {S0 S : Nat → Prop} {t : Nat} {M M' : Im} (g : Ag S M M') (hS : ∀ b, S b → S0 b ∨ (t ≤ b ∧ b ≤ t + 4) ∨ own M t b) (h4 : ¬ S (t + 4)) : Fr S0 t M M' := by
  have ho : ∀ b, own M t b → own M' t b := fun b ⟨p, hp, e⟩ => ⟨p, hp, by rw [g.R h4]; exact e⟩
  exact ⟨(g.mono (fun b hb => (hS b hb).elim Or.inl fun w => w.elim (fun v => Or.inr (Or.inl v)) fun v => Or.inr (Or.inr (ho b v)))).toL, ho⟩
theorem Fr.ofAppd {S0 : Nat → Prop} {M M' : Im} {t src s n a K T N : Nat} (h : Appd M M' t src s n a K T N) (hN : N < cap t) : Fr S0 t M M' := by
  obtain ⟨b1, b2, b3, b4, b5, b6, b6', -⟩ := h
  refine ⟨b3.mono fun b hb => ?_, fun b ⟨p, hp, e⟩ => ?_⟩
  · rcases hb with h | h | h | h | h
    · exact Or.inr (Or.inl (by omega))
    · exact Or.inr (Or.inl (by omega))
    · exact Or.inr (Or.inl (by omega))
    · exact Or.inr (Or.inl (by omega))
    · exact Or.inr (Or.inr ⟨N, hN, by rw [b5, h]⟩)
  · by_cases q : p = N
    · rw [q] at e
      have := b6' b e
      exact ⟨N, hN, by rw [b5, this]⟩
    · exact ⟨p, hp, by rw [b6 p q]; exact e⟩
/-- another tier stays as it is -/
theorem TR.other {S0 : Nat → Prop} {M M' : Im} {t u : Nat} {l : List Pc} (h : TR M u l) (ht : t ∈ TL) (hu : u ∈ TL) (hne : u ≠ t) (hl : l.length ≤ cap u) (g : Fr S0 t M M') (hp : Pool M') (hS : ∀ b, S0 b → b < 97 ∧ (b < u ∨ u + 4 < b)) : TR M' u l := by
  have ft := TL_facts t ht
  have fu := TL_facts u hu
  obtain ⟨-, -, -, -, -, ft1, ft2, -, -, -, ft3, ft4, ft5⟩ := ft
  obtain ⟨-, -, -, -, -, fu1, fu2, -, -, -, fu3, fu4, fu5⟩ := fu
  have ow : ∀ b, own M' t b → 97 ≤ b := fun b ⟨p, hp1, e⟩ => by
    obtain ⟨H, k1, -, -⟩ := hp
    obtain ⟨q1, q2, q3⟩ := k1 t ht
    have : p < H t := Nat.not_le.mp fun w => by rw [q3 p w hp1] at e; cases e
    obtain ⟨b', e1, e2, -⟩ := q2 p this
    rw [e] at e1; cases e1; exact e2
  have off : ∀ b, u ≤ b → b ≤ u + 4 → ¬ (S0 b ∨ (t ≤ b ∧ b ≤ t + 4) ∨ own M' t b) := fun b hb1 hb2 w => by
    rcases w with w | w | w
    · have := hS b w; omega
    · omega
    · have := ow b w; omega
  obtain ⟨h1, h2, h3, h4⟩ := h
  refine ⟨by rw [g.1.I (off u (by omega) (by omega))]; exact h1, by rw [g.1.I (off u (by omega) (by omega))]; exact h2, by rw [g.1.I (off u (by omega) (by omega))]; exact h3, fun p q hq => ?_⟩
  obtain ⟨a, e1, e2, e3, e4⟩ := h4 p q hq
  have hlt := (List.getElem?_eq_some_iff.mp hq).1
  have e1' : gR M' (u + 4) p = some a := by rw [g.1.R (off (u + 4) (by omega) (by omega))]; exact e1
  have offa : ¬ (S0 a ∨ (t ≤ a ∧ a ≤ t + 4) ∨ own M' t a) := fun w => by
    rcases w with w | w | ⟨p', hp', w⟩
    · have := hS a w; omega
    · omega
    · exact hne (hp.inj hu ht (by omega) hp' e1' w).1
  exact ⟨a, e1', e2, Nat.lt_of_lt_of_le e3 g.1.1, e4.frame (fun j => g.1.I offa j) (fun j => g.1.L offa j) (fun j => g.1.D offa j) (fun i _ => g.1.L (off (u + 1) (by omega) (by omega)) i) (fun i _ => g.1.I (off (u + 2) (by omega) (by omega)) i) (fun i _ => g.1.L (off (u + 3) (by omega) (by omega)) i)⟩
