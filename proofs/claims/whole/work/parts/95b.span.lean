/-! ===== span ===== -/
/-- where span k begins that is a number of spans on, and where the one ahead of it began -/
def adv (m : Int) (f : Nat → Int) (N : Nat) : Nat → Nat → Nat → Int → Nat × Nat
  | 0, b, a, _ => (b, a)
  | d + 1, b, a, k => if k ≤ 0 ∨ N ≤ a then (b, a) else adv m f N d a (a + spanLen m (fun i => f (a + i)) (N - a)) (k - 1)
theorem adv_bd (m : Int) (f : Nat → Int) (N : Nat) : ∀ d b a k, b ≤ N → a ≤ N → (adv m f N d b a k).1 ≤ N ∧ (adv m f N d b a k).2 ≤ N
  | 0, b, a, k, hb, ha => ⟨hb, ha⟩
  | d + 1, b, a, k, hb, ha => by
    unfold adv
    split
    · exact ⟨hb, ha⟩
    · rename_i h
      have := spanLen_pos (m := m) (f := fun i => f (a + i)) (n := N - a) (by omega)
      exact adv_bd m f N d a _ _ ha (by omega)
theorem c_span_34 {x what m : Int} {f : Nat → Int} {N : Nat} {Q : Int → Im → Prop} {K82 : Nat → Int → Int → Int → Im → Prop} (hm : 0 ≤ m ∧ m ≤ 40) (hN : N ≤ 300) (hf : okF f N) (hx : x < 2147483648) :
    ∀ (d b a : Nat) (i : Int) {M : Im}, N ≤ a + d → a ≤ N → 0 ≤ i → i ≤ a → K0 ≤ gz M → gI M 0 1 = N → gI M 0 2 = m → (∀ j, j < N → gL M 1 j = f j) → (∀ M', Ag (· = 17) M M' → K82 0 what (adv m f N d b a (x - i)).1 (adv m f N d b a (x - i)).2 M') → sp_X4_span_34 (d + 1) 0 x what b a i M Q K82
  | 0, b, a, i, M, hd, ha, hi, hia, hk, h1, h2, hr, hQ => by
    unfold sp_X4_span_34
    rw [h1]
    exact ⟨fun _ => hQ M Ag.refl, fun h => ⟨fun _ => hQ M Ag.refl, fun h' => by omega⟩⟩
  | d + 1, b, a, i, M, hd, ha, hi, hia, hk, h1, h2, hr, hQ => by
    have w1 : alen 1 = 300 := rfl
    unfold sp_X4_span_34
    rw [h1, h2]
    unfold adv at hQ
    refine ⟨fun h => ?_, fun h => ⟨fun h' => ?_, fun h' => ?_⟩⟩
    · rw [if_pos (Or.inl (by omega))] at hQ; exact hQ M Ag.refl
    · rw [if_pos (Or.inr (by omega))] at hQ; exact hQ M Ag.refl
    · rw [if_neg (by omega)] at hQ
      have hsp := spanLen_pos (m := m) (f := fun i => f (a + i)) (n := N - a) (by omega)
      have e : ((N : Nat) : Int) = ((a : Nat) : Int) + ((N - a : Nat) : Int) := by omega
      rw [e]
      refine c_endOfSpan (f := fun i => f (a + i)) hk (iA_c hk (by decide) ⟨_, rfl⟩) (by omega) (by omega) (by omega) (by omega) hm hf.shift (by decide) (fun j hj => hr (a + j) (by omega)) fun M1 g1 _ => ?_
      generalize spanLen m (fun i => f (a + i)) (N - a) = s at *
      refine ⟨by omega, ?_⟩
      rintro i3 rfl
      rw [show (a : Int) + (s : Nat) = ((a + s : Nat) : Int) by omega]
      refine c_span_34 hm hN hf hx d a (a + s) (i + 1) (by omega) (by omega) (by omega) (by omega) (g1.k0 hk) (by rw [g1.I (by omega)]; exact h1) (by rw [g1.I (by omega)]; exact h2) (fun j hj => by rw [g1.L (by omega)]; exact hr j hj) fun M' g' => ?_
      rw [show x - (i + 1) = x - i - 1 by omega]
      exact hQ M' (g1.trans g')
theorem d_span_12 {x what m : Int} {f : Nat → Int} {N : Nat} {Q : Int → Im → Prop} {K52 : Nat → Int → Int → Int → Int → Im → Prop} (hm : 0 ≤ m ∧ m ≤ 40) (hN : N ≤ 300) (hf : okF f N) (hx : x < 2147483648) :
    ∀ (d b a : Nat) (i : Int) {M : Im}, N ≤ a + d → a ≤ N → 0 ≤ i → i ≤ a → K0 ≤ gz M → gI M 69 1 = N → gI M 69 2 = m → (∀ j, j < N → gL M 71 j = f j) → (∀ M', Ag (· = 69) M M' → keep69 M M' → K52 69 x what (adv m f N d b a (x - i)).1 (adv m f N d b a (x - i)).2 M') → sp_X5_span_12 (d + 1) 69 x what b a i M Q K52
  | 0, b, a, i, M, hd, ha, hi, hia, hk, h1, h2, hr, hQ => by
    unfold sp_X5_span_12
    rw [h1]
    exact ⟨fun _ => hQ M Ag.refl keep69.refl, fun h => ⟨fun _ => hQ M Ag.refl keep69.refl, fun h' => by omega⟩⟩
  | d + 1, b, a, i, M, hd, ha, hi, hia, hk, h1, h2, hr, hQ => by
    unfold sp_X5_span_12
    rw [h1, h2]
    unfold adv at hQ
    refine ⟨fun h => ?_, fun h => ⟨fun h' => ?_, fun h' => ?_⟩⟩
    · rw [if_pos (Or.inl (by omega))] at hQ; exact hQ M Ag.refl keep69.refl
    · rw [if_pos (Or.inr (by omega))] at hQ; exact hQ M Ag.refl keep69.refl
    · rw [if_neg (by omega)] at hQ
      have hsp := spanLen_pos (m := m) (f := fun i => f (a + i)) (n := N - a) (by omega)
      have e : ((N : Nat) : Int) = ((a : Nat) : Int) + ((N - a : Nat) : Int) := by omega
      rw [e]
      refine d_spanEnd (f := fun i => f (a + i)) hk (by omega) (by omega) (by omega) hm hf.shift (fun j hj => hr (a + j) (by omega)) fun M1 g1 k1 => ?_
      generalize spanLen m (fun i => f (a + i)) (N - a) = s at *
      refine ⟨by omega, ?_⟩
      rintro i3 rfl
      rw [show (a : Int) + (s : Nat) = ((a + s : Nat) : Int) by omega]
      refine d_span_12 hm hN hf hx d a (a + s) (i + 1) (by omega) (by omega) (by omega) (by omega) (g1.k0 hk) (by rw [k1 1 (by omega)]; exact h1) (by rw [k1 2 (by omega)]; exact h2) (fun j hj => by rw [g1.L (by omega)]; exact hr j hj) fun M' g' k' => ?_
      rw [show x - (i + 1) = x - i - 1 by omega]
      exact hQ M' (g1.trans g') (k1.trans k')
/-! the first two that no line passes with s -/
noncomputable def bj (m : Int) (f : Nat → Int) (s i : Nat) : Nat → Nat → Option Nat
  | 0, _ => none
  | d + 1, j => if fitS (three m f i j s) then bj m f s i d (j + 1) else some j
noncomputable def bi (m : Int) (f : Nat → Int) (s : Nat) : Nat → Nat → Option (Nat × Nat)
  | 0, _ => none
  | d + 1, i => match bj m f s i (s - (i + 1)) (i + 1) with
    | some j => some (i, j)
    | none => bi m f s d (i + 1)
theorem c_bar_15 {N s i : Nat} {m fl : Int} {f : Nat → Int} {Q : Int → Im → Prop} {K44 : Int → Int → Int → Im → Prop} {K62 : Nat → Int → Int → Int → Im → Prop} (hm : 0 ≤ m ∧ m ≤ 40) (hN : N ≤ 300) (hf : okF f N) (hs : s < N) :
    ∀ (d j : Nat) {M : Im}, j + d = s → i < j → K0 ≤ gz M → gI M 0 2 = m → (∀ k, k < N → gL M 1 k = f k) → (∀ j', bj m f s i d j = some j' → ∀ M', Ag (· = 17) M M' → K44 fl i j' M') → (bj m f s i d j = none → ∀ M', Ag (· = 17) M M' → K62 0 s fl i M') → sp_X4_oneOfTwoThatBar_15 (d + 1) 0 s fl i j M Q K44 K62
  | 0, j, M, h, hij, hk, h2, hr, q1, q0 => by
    unfold sp_X4_oneOfTwoThatBar_15
    exact ⟨fun _ => q0 rfl M Ag.refl, fun h => by omega⟩
  | d + 1, j, M, h, hij, hk, h2, hr, q1, q0 => by
    unfold sp_X4_oneOfTwoThatBar_15
    rw [h2]
    unfold bj at q1 q0
    refine ⟨fun h => by omega, fun _ => ?_⟩
    refine c_passThree (n := N) (f := f) hk (iA_c hk (by decide) ⟨_, rfl⟩) hij (by omega) hs (by omega) hN (by decide) hm hf (by decide) hr (fun hfit M' g => ⟨fun _ => ⟨by omega, ?_⟩, fun h => (by omega)⟩) (fun hfit M' g => ⟨fun h => absurd rfl h, fun _ => q1 j (by rw [if_neg hfit]) M' g⟩)
    rintro i4 rfl
    rw [if_pos hfit] at q1 q0
    rw [show (j : Int) + 1 = ((j + 1 : Nat) : Int) by omega]
    exact c_bar_15 hm hN hf hs d (j + 1) (by omega) (by omega) (g.k0 hk) (by rw [g.I (by omega)]; exact h2) (fun k hk' => by rw [g.L (by omega)]; exact hr k hk') (fun j' hj' M2 g2 => q1 j' hj' M2 (g.trans g2)) (fun hn M2 g2 => q0 hn M2 (g.trans g2))
theorem c_bar_3 {N s : Nat} {m fl : Int} {f : Nat → Int} {Q : Int → Im → Prop} {K44 : Int → Int → Int → Im → Prop} {K68 : Im → Prop} (hm : 0 ≤ m ∧ m ≤ 40) (hN : N ≤ 300) (hf : okF f N) (hs : s < N) :
    ∀ (d i : Nat) {M : Im}, i + d = s → K0 ≤ gz M → gI M 0 2 = m → (∀ k, k < N → gL M 1 k = f k) → (∀ i' j', bi m f s d i = some (i', j') → ∀ M', Ag (· = 17) M M' → K44 fl i' j' M') → (bi m f s d i = none → ∀ M', Ag (· = 17) M M' → K68 M') → sp_X4_oneOfTwoThatBar_3 (d + 1) 0 s fl i M Q K44 K68
  | 0, i, M, h, hk, h2, hr, q1, q0 => by
    unfold sp_X4_oneOfTwoThatBar_3
    exact ⟨fun _ => q0 rfl M Ag.refl, fun h => by omega⟩
  | d + 1, i, M, h, hk, h2, hr, q1, q0 => by
    unfold sp_X4_oneOfTwoThatBar_3
    refine ⟨fun h => by omega, fun _ => ⟨by omega, ?_⟩⟩
    rintro i1 rfl
    rw [show (i : Int) + 1 = ((i + 1 : Nat) : Int) by omega]
    refine ⟨s - (i + 1) + 1, ?_⟩
    unfold bi at q1 q0
    refine c_bar_15 hm hN hf hs (s - (i + 1)) (i + 1) (by omega) (by omega) hk h2 hr (fun j' hj' M' g => ?_) (fun hn M' g => ?_)
    · rw [hj'] at q1
      exact q1 i j' rfl M' g
    · rw [hn] at q1 q0
      unfold sp_X4_oneOfTwoThatBar_62
      refine ⟨by omega, ?_⟩
      rintro i5 rfl
      rw [show (i : Int) + 1 = ((i + 1 : Nat) : Int) by omega]
      exact c_bar_3 hm hN hf hs d (i + 1) (by omega) (g.k0 hk) (by rw [g.I (by omega)]; exact h2) (fun k hk' => by rw [g.L (by omega)]; exact hr k hk') (fun i' j' hj' M2 g2 => q1 i' j' hj' M2 (g.trans g2)) (fun hn M2 g2 => q0 hn M2 (g.trans g2))
theorem d_bar_130 {r : List Int} {s i : Nat} {m what : Int} {Q : Int → Im → Prop} {K154 : Int → Int → Int → Im → Prop} {K173 : Nat → Int → Int → Int → Im → Prop} (hm : 0 ≤ m ∧ m ≤ 40) (hN : r.length ≤ 300) (hf : okF (lf r) r.length) (hs : s < r.length) :
    ∀ (d j : Nat) {M : Im}, j + d = s → i < j → K0 ≤ gz M → gI M 69 1 = r.length → gI M 69 2 = m → (∀ k v, r[k]? = some v → gL M 70 k = v) → (∀ j', bj m (lf r) s i d j = some j' → ∀ M', Ag (fun b => b = 69 ∨ b = 71) M M' → keep69 M M' → K154 what i j' M') → (bj m (lf r) s i d j = none → ∀ M', Ag (fun b => b = 69 ∨ b = 71) M M' → keep69 M M' → K173 69 what s i M') → sp_X5_span_130 (d + 1) 69 what s i j M Q K154 K173
  | 0, j, M, h, hij, hk, h1, h2, hr, q1, q0 => by
    unfold sp_X5_span_130
    exact ⟨fun _ => q0 rfl M Ag.refl keep69.refl, fun h => by omega⟩
  | d + 1, j, M, h, hij, hk, h1, h2, hr, q1, q0 => by
    unfold sp_X5_span_130
    rw [h2]
    unfold bj at q1 q0
    refine ⟨fun h => by omega, fun _ => ?_⟩
    refine d_three hk hN h1 hr hij (by omega) hs hm hf (fun hfit M' g k => ⟨fun _ => ⟨by omega, ?_⟩, fun h => (by omega)⟩) (fun hfit M' g k => ⟨fun h => absurd rfl h, fun _ => q1 j (by rw [if_neg hfit]) M' g k⟩)
    rintro i4 rfl
    rw [if_pos hfit] at q1 q0
    rw [show (j : Int) + 1 = ((j + 1 : Nat) : Int) by omega]
    exact d_bar_130 hm hN hf hs d (j + 1) (by omega) (by omega) (g.k0 hk) (by rw [k 1 (by omega)]; exact h1) (by rw [k 2 (by omega)]; exact h2) (fun x v hv => by rw [g.L (by omega)]; exact hr x v hv) (fun j' hj' M2 g2 k2 => q1 j' hj' M2 (g.trans g2) (k.trans k2)) (fun hn M2 g2 k2 => q0 hn M2 (g.trans g2) (k.trans k2))
theorem d_bar_117 {r : List Int} {s : Nat} {m what : Int} {Q : Int → Im → Prop} {K154 : Int → Int → Int → Im → Prop} {K179 : Im → Prop} (hm : 0 ≤ m ∧ m ≤ 40) (hN : r.length ≤ 300) (hf : okF (lf r) r.length) (hs : s < r.length) :
    ∀ (d i : Nat) {M : Im}, i + d = s → K0 ≤ gz M → gI M 69 1 = r.length → gI M 69 2 = m → (∀ k v, r[k]? = some v → gL M 70 k = v) → (∀ i' j', bi m (lf r) s d i = some (i', j') → ∀ M', Ag (fun b => b = 69 ∨ b = 71) M M' → keep69 M M' → K154 what i' j' M') → (bi m (lf r) s d i = none → ∀ M', Ag (fun b => b = 69 ∨ b = 71) M M' → keep69 M M' → K179 M') → sp_X5_span_117 (d + 1) 69 what s i M Q K154 K179
  | 0, i, M, h, hk, h1, h2, hr, q1, q0 => by
    unfold sp_X5_span_117
    exact ⟨fun _ => q0 rfl M Ag.refl keep69.refl, fun h => by omega⟩
  | d + 1, i, M, h, hk, h1, h2, hr, q1, q0 => by
    unfold sp_X5_span_117
    refine ⟨fun h => by omega, fun _ => ⟨by omega, ?_⟩⟩
    rintro i1 rfl
    rw [show (i : Int) + 1 = ((i + 1 : Nat) : Int) by omega]
    refine ⟨s - (i + 1) + 1, ?_⟩
    unfold bi at q1 q0
    refine d_bar_130 hm hN hf hs (s - (i + 1)) (i + 1) (by omega) (by omega) hk h1 h2 hr (fun j' hj' M' g k => ?_) (fun hn M' g k => ?_)
    · rw [hj'] at q1
      exact q1 i j' rfl M' g k
    · rw [hn] at q1 q0
      unfold sp_X5_span_173
      refine ⟨by omega, ?_⟩
      rintro i5 rfl
      rw [show (i : Int) + 1 = ((i + 1 : Nat) : Int) by omega]
      exact d_bar_117 hm hN hf hs d (i + 1) (by omega) (g.k0 hk) (by rw [k 1 (by omega)]; exact h1) (by rw [k 2 (by omega)]; exact h2) (fun x v hv => by rw [g.L (by omega)]; exact hr x v hv) (fun i' j' hj' M2 g2 k2 => q1 i' j' hj' M2 (g.trans g2) (k.trans k2)) (fun hn M2 g2 k2 => q0 hn M2 (g.trans g2) (k.trans k2))
/-- the answer of span -/
noncomputable def spanA (r : List Int) (m x what : Int) : Int :=
  if x < 0 ∨ what < 0 ∨ (if 0 < x then 3 else 1) < what ∨ (r.length : Int) ≤ (adv m (lf r) r.length r.length 0 0 x).2 then -1
  else if what = 0 then (adv m (lf r) r.length r.length 0 0 x).2
  else if what = 1 then spanLen m (fun i => lf r ((adv m (lf r) r.length r.length 0 0 x).2 + i)) (r.length - (adv m (lf r) r.length r.length 0 0 x).2)
  else match bi m (lf r) (adv m (lf r) r.length r.length 0 0 x).2 ((adv m (lf r) r.length r.length 0 0 x).2 - (adv m (lf r) r.length r.length 0 0 x).1) (adv m (lf r) r.length r.length 0 0 x).1 with
    | some p => if what = 2 then (p.1 : Int) else p.2
    | none => -1
theorem adv_le (m : Int) (f : Nat → Int) (N : Nat) : ∀ d b a k, b ≤ a → (adv m f N d b a k).1 ≤ (adv m f N d b a k).2
  | 0, b, a, k, h => h
  | d + 1, b, a, k, h => by
    unfold adv
    split
    · exact h
    · exact adv_le m f N d _ _ _ (by omega)
theorem d_span {M : Im} {r : List Int} {m x what : Int} {Q : Int → Im → Prop} (hk : K0 ≤ gz M) (hl : r.length ≤ 300) (h1 : gI M 69 1 = r.length) (h2 : gI M 69 2 = m) (hr : ∀ i v, r[i]? = some v → gL M 70 i = v) (hm : 0 ≤ m ∧ m ≤ 40) (hf : okF (lf r) r.length) (hx : x < 2147483648)
    (hQ : ∀ M', Ag (fun b => b = 69 ∨ b = 71) M M' → keep69 M M' → Q (spanA r m x what) M') : sp_X5_span 69 x what M Q := by
  unfold sp_X5_span
  refine ⟨iO_c hk (by decide) rfl, d_take hk hl h1 hr fun M1 g1 p1 => ⟨r.length + 1, ?_⟩⟩
  have ab := adv_bd m (lf r) r.length r.length 0 0 x (by omega) (by omega)
  have al := adv_le m (lf r) r.length r.length 0 0 x (Nat.le_refl _)
  have key := d_span_12 (x := x) (what := what) (m := m) (f := lf r) (N := r.length) (Q := Q) (K52 := fun (x0 : Nat) (x1 : Int) (x2 : Int) (x3 : Int) (x4 : Int) (M : Im) =>
    (x1 < 0 → Q (-1) M) ∧
    (0 ≤ x1 →
    ((gI M x0 1) ≤ x4 → Q (-1) M) ∧
    (x4 < (gI M x0 1) →
    (x2 < 0 → Q (-1) M) ∧
    (0 ≤ x2 →
    (x1 ≤ 0 → sp_X5_span_79 x0 x2 x3 x4 1 x2 M Q) ∧
    (0 < x1 → sp_X5_span_79 x0 x2 x3 x4 3 x2 M Q))))) hm hl hf hx r.length 0 0 0 (M := M1) (by omega) (by omega) (by omega) (by omega) (g1.k0 hk) (by rw [g1.I (by omega)]; exact h1) (by rw [g1.I (by omega)]; exact h2) p1 (fun M2 g2 k2 => ?_)
  · exact key
  rw [Int.sub_zero]
  have G2 : Ag (fun b => b = 69 ∨ b = 71) M M2 := (g1.mono fun b hb => Or.inr hb).trans (g2.mono fun b hb => Or.inl hb)
  have K2 : keep69 M M2 := fun k hk' => by rw [k2 k hk', g1.I (by omega)]
  have e1 : gI M2 69 1 = r.length := by rw [K2 1 (by omega)]; exact h1
  have e2 : gI M2 69 2 = m := by rw [K2 2 (by omega)]; exact h2
  have er : ∀ i v, r[i]? = some v → gL M2 70 i = v := fun i v hv => by rw [G2.L (by omega)]; exact hr i v hv
  have ep : ∀ j, j < r.length → gL M2 71 j = lf r j := fun j hj => by rw [g2.L (by omega)]; exact p1 j hj
  have k2' := G2.k0 hk
  have fin : ∀ u M', u = spanA r m x what → Ag (fun b => b = 69 ∨ b = 71) M2 M' → keep69 M2 M' → Q u M' := fun u M' hu g k => by rw [hu]; exact hQ M' (G2.trans g) (K2.trans k)
  unfold spanA at fin
  generalize adv m (lf r) r.length r.length 0 0 x = ba at *
  obtain ⟨b, a⟩ := ba
  dsimp only at ab al fin
  have none_ : ∀ u, u = -1 → (x < 0 ∨ what < 0 ∨ (if 0 < x then (3 : Int) else 1) < what ∨ (r.length : Int) ≤ a) → Q u M2 := fun u hu h => fin u M2 (by rw [if_pos h]; exact hu) Ag.refl keep69.refl
  have r79 : ∀ t : Int, t = (if 0 < x then 3 else 1) → 0 ≤ x → 0 ≤ what → (a : Int) < r.length → sp_X5_span_79 69 what b a t what M2 Q := by
    intro t ht hx0 hw0 har
    unfold sp_X5_span_79
    rw [e1, e2]
    refine ⟨fun hle => ?_, fun hgt => none_ _ rfl (by omega)⟩
    rw [if_neg (by omega)] at fin
    refine ⟨fun hw => ⟨fun hw1 => ⟨a - b + 1, ?_⟩, fun hw1 => ?_⟩, fun hw => fin _ M2 (by rw [if_pos hw]) Ag.refl keep69.refl⟩
    · rw [if_neg hw, if_neg hw1] at fin
      refine d_bar_117 (Q := Q) hm hl hf (by omega) (a - b) b (by omega) k2' e1 e2 er (fun i' j' hb M' g k => ?_) (fun hb M' g k => ?_)
      · rw [hb] at fin
        dsimp only at fin
        exact ⟨fun hw2 => fin _ M' (by rw [if_neg hw2]) g k, fun hw2 => fin _ M' (by rw [if_pos hw2]) g k⟩
      · rw [hb] at fin
        exact fin _ M' rfl g k
    · rw [if_neg hw, if_pos hw1] at fin
      have e : ((r.length : Nat) : Int) = ((a : Nat) : Int) + ((r.length - a : Nat) : Int) := by omega
      rw [e]
      have sp := spanLen_pos (m := m) (f := fun i => lf r (a + i)) (n := r.length - a) (by omega)
      refine d_spanEnd (f := fun i => lf r (a + i)) k2' (by omega) (by omega) (by omega) hm hf.shift (fun j hj => ep (a + j) (by omega)) fun M3 g3 k3 => ⟨by omega, ?_⟩
      exact fin _ M3 (by omega) (g3.mono fun b hb => Or.inl hb) k3
  rw [e1]
  refine ⟨fun h => none_ _ rfl (by omega), fun h => ⟨fun h' => none_ _ rfl (by omega), fun h' => ⟨fun h'' => none_ _ rfl (by omega), fun h'' => ⟨fun hx0 => r79 1 (by rw [if_neg (by omega)]) h h'' h', fun hx0 => r79 3 (by rw [if_pos hx0]) h h'' h'⟩⟩⟩⟩
theorem st_span {n : Nat} {M : Im} (h : Good n M) (hn : n < 512) (x what : Int) (hx31 : x < 2147483648) : sp_X4_span 0 x what M (fun z M1 => sp_X5_span 69 x what M1 (Fin_ n z)) := by
  have w1 : alen 1 = 300 := rfl
  obtain ⟨r, E, ll, Y, mk_, an, w, lk, hc, hm, hw⟩ := h
  obtain ⟨hk, -, -, -, ⟨c1, c2, -⟩, cr, -⟩ := id hc
  obtain ⟨w0, ⟨wl, wr, wi⟩, wE, -⟩ := id hw
  have hf := okF_row wr wi
  have ab := adv_bd E (lf r) r.length r.length 0 0 x (by omega) (by omega)
  have al := adv_le E (lf r) r.length r.length 0 0 x (Nat.le_refl _)
  have fin : ∀ u M1, u = spanA r E x what → Ag (· = 17) M M1 → sp_X5_span 69 x what M1 (Fin_ n u) := fun u M1 hu g1 => by
    have hc1 := hc.ag g1 (fun b hb => by omega)
    have hm1 := hm.ag g1 (fun b hb => by omega)
    exact d_span (g1.k0 hk) wl hm1.1.1 hm1.1.2.1 hm1.2.1 wE hf hx31 fun M' g k => ⟨hu, Good.same (hc1.ag g (fun b hb => by omega)) (keep_MI hm1 g k) hw hn⟩
  unfold spanA at fin
  have r9 : ∀ t : Int, t = (if 0 < x then 3 else 1) → sp_X4_span_9 0 x what t M (fun z M1 => sp_X5_span 69 x what M1 (Fin_ n z)) := by
    intro t ht
    unfold sp_X4_span_9
    refine ⟨fun h => fin _ M (by rw [if_pos (by omega)]) Ag.refl, fun hx0 => ⟨fun h => fin _ M (by rw [if_pos (by omega)]) Ag.refl, fun hw0 => ⟨fun hle => ⟨r.length + 1, ?_⟩, fun h => fin _ M (by rw [if_pos (by omega)]) Ag.refl⟩⟩⟩
    refine c_span_34 (f := lf r) (N := r.length) (m := E) wE wl hf hx31 r.length 0 0 0 (by omega) (by omega) (by omega) (by omega) hk c1 c2 (row_lf cr) fun M1 g1 => ?_
    rw [Int.sub_zero]
    have k1 := g1.k0 hk
    have e1 : gI M1 0 1 = r.length := by rw [g1.I (by omega)]; exact c1
    have e2 : gI M1 0 2 = E := by rw [g1.I (by omega)]; exact c2
    have er : ∀ j, j < r.length → gL M1 1 j = lf r j := fun j hj => by rw [g1.L (by omega)]; exact row_lf cr j hj
    generalize adv E (lf r) r.length r.length 0 0 x = ba at *
    obtain ⟨b, a⟩ := ba
    dsimp only at ab al fin ⊢
    rw [e1]
    refine ⟨fun har => ?_, fun har => fin _ M1 (by rw [if_pos (by omega)]) g1⟩
    rw [if_neg (by omega)] at fin
    have bar : ∀ fl : Int, (fl = 0 ∨ fl = 1) → what ≠ 0 → what ≠ 1 → (fl = 1 ↔ what = 2) → sp_X4_span_145 fl a b 0 M1 (fun z M1 => sp_X5_span 69 x what M1 (Fin_ n z)) := by
      intro fl hfl hw hw1 hfw
      rw [if_neg hw, if_neg hw1] at fin
      unfold sp_X4_span_145 sp_X4_oneOfTwoThatBar
      refine ⟨iO_c k1 (by decide) rfl, a - b + 1, ?_⟩
      refine c_bar_3 wE wl hf (by omega) (a - b) b (by omega) k1 e2 er (fun i' j' hb M' g => ?_) (fun hb M' g => ?_)
      · rw [hb] at fin
        dsimp only at fin
        exact ⟨fun h0 => fin _ M' (by rw [if_neg (by omega)]) (g1.trans g), fun h0 => fin _ M' (by rw [if_pos (by omega)]) (g1.trans g)⟩
      · rw [hb] at fin
        exact fin _ M' rfl (g1.trans g)
    refine ⟨fun hw => ⟨fun hw1 => ⟨fun hw2 => bar 0 (Or.inl rfl) hw hw1 (by omega), fun hw2 => bar 1 (Or.inr rfl) hw hw1 (by omega)⟩, fun hw1 => ?_⟩, fun hw => fin _ M1 (by rw [if_pos hw]) g1⟩
    rw [if_neg hw, if_pos hw1] at fin
    rw [e2]
    have e : ((r.length : Nat) : Int) = ((a : Nat) : Int) + ((r.length - a : Nat) : Int) := by omega
    rw [e]
    have sp := spanLen_pos (m := E) (f := fun i => lf r (a + i)) (n := r.length - a) (by omega)
    refine c_endOfSpan (f := fun i => lf r (a + i)) k1 (iA_c k1 (by decide) ⟨_, rfl⟩) (by omega) (by omega) (by omega) (by omega) wE hf.shift (by decide) (fun j hj => er (a + j) (by omega)) fun M3 g3 _ => ⟨by omega, ?_⟩
    exact fin _ M3 (by omega) (g1.trans g3)
  unfold sp_X4_span
  exact ⟨iO_c hk (by decide) rfl, fun h => r9 1 (by rw [if_neg (by omega)]), fun h => r9 3 (by rw [if_pos h])⟩
