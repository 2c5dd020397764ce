/-! ===== memories that may have grown; the pool of pieces ===== -/
def AgL (S : Nat → Prop) (M M' : Im) : Prop := gz M ≤ gz M' ∧ ∀ a, ¬ S a → ∀ j, gI M' a j = gI M a j ∧ gL M' a j = gL M a j ∧ gD M' a j = gD M a j ∧ gR M' a j = gR M a j
theorem Ag.toL {S : Nat → Prop} {M M' : Im} (h : Ag S M M') : AgL S M M' := ⟨Nat.le_of_eq h.1.symm, h.2⟩
theorem AgL.refl {S : Nat → Prop} {M : Im} : AgL S M M := ⟨Nat.le_refl _, fun _ _ _ => ⟨rfl, rfl, rfl, rfl⟩⟩
theorem AgL.trans {S : Nat → Prop} {M M' M'' : Im} (h : AgL S M M') (h' : AgL S M' M'') : AgL S M M'' :=
  ⟨Nat.le_trans h.1 h'.1, fun a ha j => ⟨(h'.2 a ha j).1.trans (h.2 a ha j).1, (h'.2 a ha j).2.1.trans (h.2 a ha j).2.1, (h'.2 a ha j).2.2.1.trans (h.2 a ha j).2.2.1, (h'.2 a ha j).2.2.2.trans (h.2 a ha j).2.2.2⟩⟩
theorem AgL.mono {S S' : Nat → Prop} {M M' : Im} (h : AgL S M M') (hS : ∀ a, S a → S' a) : AgL S' M M' := ⟨h.1, fun a ha j => h.2 a (fun q => ha (hS a q)) j⟩
theorem AgL.I {S : Nat → Prop} {M M' : Im} (h : AgL S M M') {a : Nat} (ha : ¬ S a) (j : Nat) : gI M' a j = gI M a j := (h.2 a ha j).1
theorem AgL.L {S : Nat → Prop} {M M' : Im} (h : AgL S M M') {a : Nat} (ha : ¬ S a) (j : Nat) : gL M' a j = gL M a j := (h.2 a ha j).2.1
theorem AgL.D {S : Nat → Prop} {M M' : Im} (h : AgL S M M') {a : Nat} (ha : ¬ S a) (j : Nat) : gD M' a j = gD M a j := (h.2 a ha j).2.2.1
theorem AgL.R {S : Nat → Prop} {M M' : Im} (h : AgL S M M') {a : Nat} (ha : ¬ S a) (j : Nat) : gR M' a j = gR M a j := (h.2 a ha j).2.2.2
theorem AgL.k0 {S : Nat → Prop} {M M' : Im} (h : AgL S M M') (hk : K0 ≤ gz M) : K0 ≤ gz M' := Nat.le_trans hk h.1
theorem AgL.A {S : Nat → Prop} {M M' : Im} (h : AgL S M M') {a : Nat} {t : FieldType} (ho : iA M a t) : iA M' a t := ⟨ho.1, Nat.lt_of_lt_of_le ho.2 h.1⟩
theorem AgL.O {S : Nat → Prop} {M M' : Im} (h : AgL S M M') {a ci : Nat} (ho : iO M a ci) : iO M' a ci := ⟨ho.1, Nat.lt_of_lt_of_le ho.2 h.1⟩
/-- the objects of pieces: each tier has some of the first numbers, no two are one, and there are no others -/
def Pool (M : Im) : Prop := ∃ H : Nat → Nat,
  (∀ t, t ∈ TL → H t ≤ cap t ∧ (∀ p, p < H t → ∃ a, gR M (t + 4) p = some a ∧ 97 ≤ a ∧ a < gz M) ∧ (∀ p, H t ≤ p → p < cap t → gR M (t + 4) p = none)) ∧
  (∀ t t' p p' a, t ∈ TL → t' ∈ TL → p < H t → p' < H t' → gR M (t + 4) p = some a → gR M (t' + 4) p' = some a → t = t' ∧ p = p') ∧ gz M = 97 + (TL.map H).sum
theorem TL_sum_le {H : Nat → Nat} (h : ∀ t, t ∈ TL → H t ≤ cap t) : (TL.map H).sum ≤ 2402 := by
  have e : (TL.map cap).sum = 2402 := by decide +kernel
  rw [← e]
  unfold TL at h ⊢
  simp only [List.map, List.sum_cons, List.sum_nil] at *
  have h0 := h 2 (by decide)
  have h1 := h 7 (by decide)
  have h2 := h 19 (by decide)
  have h3 := h 24 (by decide)
  have h4 := h 29 (by decide)
  have h5 := h 34 (by decide)
  have h6 := h 39 (by decide)
  have h7 := h 44 (by decide)
  have h8 := h 49 (by decide)
  have h9 := h 54 (by decide)
  have h10 := h 59 (by decide)
  have h11 := h 64 (by decide)
  omega
theorem TL_sum_succ {H : Nat → Nat} {t : Nat} (ht : t ∈ TL) : (TL.map (fun u => if u = t then H u + 1 else H u)).sum = (TL.map H).sum + 1 := by
  unfold TL at ht ⊢
  simp only [List.mem_cons, List.not_mem_nil, or_false] at ht
  rcases ht with rfl | rfl | rfl | rfl | rfl | rfl | rfl | rfl | rfl | rfl | rfl | rfl <;> simp <;> omega
theorem Pool.lt {M : Im} (h : Pool M) : gz M < ZMAX := by
  obtain ⟨H, h1, -, h3⟩ := h
  have := TL_sum_le (H := H) (fun t ht => (h1 t ht).1)
  have e : ZMAX = 6000 := rfl
  omega
/-- a place that a tier's row of pieces holds is that of its piece alone -/
theorem Pool.inj {M : Im} (h : Pool M) {t t' p p' a : Nat} (ht : t ∈ TL) (ht' : t' ∈ TL) (hp : p < cap t) (hp' : p' < cap t') (e : gR M (t + 4) p = some a) (e' : gR M (t' + 4) p' = some a) : t = t' ∧ p = p' := by
  obtain ⟨H, h1, h2, -⟩ := h
  refine h2 t t' p p' a ht ht' ?_ ?_ e e'
  · refine Nat.not_le.mp fun q => ?_
    rw [(h1 t ht).2.2 p q hp] at e; cases e
  · refine Nat.not_le.mp fun q => ?_
    rw [(h1 t' ht').2.2 p' q hp'] at e'; cases e'
theorem Pool.same {M M' : Im} (h : Pool M) (hz : gz M' = gz M) (hr : ∀ t, t ∈ TL → ∀ p, gR M' (t + 4) p = gR M (t + 4) p) : Pool M' := by
  obtain ⟨H, h1, h2, h3⟩ := h
  refine ⟨H, fun t ht => ⟨(h1 t ht).1, fun p hp => ?_, fun p hp hp2 => ?_⟩, fun t t' p p' a ht ht' hp hp' e e' => ?_, ?_⟩
  · rw [hr t ht, hz]; exact (h1 t ht).2.1 p hp
  · rw [hr t ht]; exact (h1 t ht).2.2 p hp hp2
  · rw [hr t ht] at e
    rw [hr t' ht'] at e'
    exact h2 t t' p p' a ht ht' hp hp' e e'
  · rw [hz]; exact h3
theorem Pool.ag {S : Nat → Prop} {M M' : Im} (h : Pool M) (g : Ag S M M') (hS : ∀ t, t ∈ TL → ¬ S (t + 4)) : Pool M' := h.same g.1 fun t ht p => g.R (hS t ht) p
/-- the next piece of a tier: the one that is there, or a new one -/
theorem Pool.next {M : Im} (h : Pool M) {t p : Nat} (ht : t ∈ TL) (hp : p < cap t) (hprev : ∀ r, r < p → gR M (t + 4) r ≠ none) (hn : gR M (t + 4) p = none) : Pool (pR (pnw M) (t + 4) p (some (gz M))) := by
  obtain ⟨H, h1, h2, h3⟩ := h
  obtain ⟨g1, g2, g3⟩ := h1 t ht
  have hH : H t = p := by
    rcases Nat.lt_trichotomy (H t) p with q | q | q
    · exact absurd (g3 (H t) (Nat.le_refl _) (by omega)) (hprev _ q)
    · exact q
    · obtain ⟨a, e, -⟩ := g2 p q
      rw [hn] at e; cases e
  have hz97 : 97 ≤ gz M := by omega
  have f := TL_facts t ht
  have hne : ∀ u, u ∈ TL → ¬ u + 4 = gz M := fun u hu q => by have := TL_facts u hu; omega
  refine ⟨fun u => if u = t then H u + 1 else H u, fun u hu => ?_, fun u u' r r' a hu hu' hr hr' e e' => ?_, ?_⟩
  · obtain ⟨k1, k2, k3⟩ := h1 u hu
    simp only [gI_pI, gI_pL, gI_pD, gI_pR, gI_pnw, gI_pcp, gL_pI, gL_pL, gL_pD, gL_pR, gL_pnw, gL_pcp, gD_pI, gD_pL, gD_pD, gD_pR, gD_pnw, gD_pcp, gR_pI, gR_pL, gR_pD, gR_pR, gR_pnw, gR_pcp, gz_pI, gz_pL, gz_pD, gz_pR, gz_pnw, gz_pcp]
    by_cases hut : u = t
    · subst hut
      rw [if_pos rfl]
      refine ⟨by omega, fun r hr => ?_, fun r hr hr2 => ?_⟩
      · by_cases hrp : r = p
        · subst hrp
          exact ⟨gz M, by simp, hz97, by omega⟩
        · obtain ⟨a, e, e1, e2⟩ := k2 r (by omega)
          refine ⟨a, ?_, e1, by omega⟩
          rw [if_neg (by omega), if_neg (hne u hu)]; exact e
      · rw [if_neg (by omega), if_neg (hne u hu)]
        exact k3 r (by omega) hr2
    · rw [if_neg hut]
      refine ⟨k1, fun r hr => ?_, fun r hr hr2 => ?_⟩
      · obtain ⟨a, e, e1, e2⟩ := k2 r hr
        refine ⟨a, ?_, e1, by omega⟩
        rw [if_neg (by omega), if_neg (hne u hu)]; exact e
      · rw [if_neg (by omega), if_neg (hne u hu)]
        exact k3 r hr hr2
  · simp only [gI_pI, gI_pL, gI_pD, gI_pR, gI_pnw, gI_pcp, gL_pI, gL_pL, gL_pD, gL_pR, gL_pnw, gL_pcp, gD_pI, gD_pL, gD_pD, gD_pR, gD_pnw, gD_pcp, gR_pI, gR_pL, gR_pD, gR_pR, gR_pnw, gR_pcp, gz_pI, gz_pL, gz_pD, gz_pR, gz_pnw, gz_pcp, if_neg (hne u hu), if_neg (hne u' hu')] at e e'
    dsimp only at hr hr'
    have big : ∀ v, v ∈ TL → ∀ s, s < H v → gR M (v + 4) s ≠ some (gz M) := fun v hv s hs q => by
      obtain ⟨b, e1, -, e3⟩ := (h1 v hv).2.1 s hs
      rw [e1] at q; cases q; omega
    by_cases c : u + 4 = t + 4 ∧ r = p
    · rw [if_pos c] at e
      cases e
      by_cases c' : u' + 4 = t + 4 ∧ r' = p
      · exact ⟨by omega, by omega⟩
      · rw [if_neg c'] at e'
        exfalso
        refine big u' hu' r' ?_ e'
        by_cases q : u' = t
        · rw [if_pos q] at hr'
          have : r' ≠ p := fun w => c' ⟨by omega, w⟩
          rw [q] at hr' ⊢
          omega
        · rw [if_neg q] at hr'; exact hr'
    · rw [if_neg c] at e
      have hr2 : r < H u := by
        by_cases q : u = t
        · rw [if_pos q] at hr
          have : r ≠ p := fun w => c ⟨by omega, w⟩
          rw [q] at hr ⊢
          omega
        · rw [if_neg q] at hr; exact hr
      by_cases c' : u' + 4 = t + 4 ∧ r' = p
      · rw [if_pos c'] at e'
        cases e'
        exact absurd e (big u hu r hr2)
      · rw [if_neg c'] at e'
        refine h2 u u' r r' a hu hu' hr2 ?_ e e'
        by_cases q : u' = t
        · rw [if_pos q] at hr'
          have : r' ≠ p := fun w => c' ⟨by omega, w⟩
          rw [q] at hr' ⊢
          omega
        · rw [if_neg q] at hr'; exact hr'
  · rw [TL_sum_succ ht]
    simp only [gI_pI, gI_pL, gI_pD, gI_pR, gI_pnw, gI_pcp, gL_pI, gL_pL, gL_pD, gL_pR, gL_pnw, gL_pcp, gD_pI, gD_pL, gD_pD, gD_pR, gD_pnw, gD_pcp, gR_pI, gR_pL, gR_pD, gR_pR, gR_pnw, gR_pcp, gz_pI, gz_pL, gz_pD, gz_pR, gz_pnw, gz_pcp]
    omega
