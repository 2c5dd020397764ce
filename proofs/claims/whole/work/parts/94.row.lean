/-! ===== the row: load, fill, wipe, margin ===== -/
/-- a key is above the row's last -/
def abv (r : List Int) (k : Int) : Prop := ∀ v, r[r.length - 1]? = some v → v < k
theorem c_isAboveRow {M : Im} {r : List Int} {k : Int} {Q : Int → Im → Prop} (hk : K0 ≤ gz M) (h1 : gI M 0 1 = r.length) (hl : r.length ≤ 300) (hr : ∀ i v, r[i]? = some v → gL M 1 i = v) (q1 : abv r k → Q 1 M) (q0 : ¬ abv r k → Q 0 M) : sp_X4_isAboveRow 0 k M Q := by
  have w1 : alen 1 = 300 := rfl
  unfold sp_X4_isAboveRow
  rw [h1, w1]
  refine ⟨iO_c hk (by decide) rfl, fun h => ⟨Or.inr rfl, q1 fun v hv => ?_⟩, fun h => ⟨by omega, by omega, by omega, ?_⟩⟩
  · have := (List.getElem?_eq_some_iff.mp hv).1; omega
  · have e := List.getElem?_eq_getElem (l := r) (i := r.length - 1) (by omega)
    rw [show (((r.length : Nat) : Int) - 1).toNat = r.length - 1 by omega, hr _ _ e]
    refine ⟨fun h' => ⟨Or.inl rfl, q0 fun w => ?_⟩, fun h' => ⟨Or.inr rfl, q1 fun v hv => ?_⟩⟩
    · have := w _ e; omega
    · rw [e] at hv; cases hv; exact h'
theorem abv_all {r : List Int} {k : Int} (hr : rising r) (h : abv r k) : ∀ x, x ∈ r → x < k := by
  intro x hx
  obtain ⟨i, hi⟩ := List.mem_iff_getElem?.mp hx
  obtain ⟨h1, rfl⟩ := List.getElem?_eq_some_iff.mp hi
  have e := List.getElem?_eq_getElem (l := r) (i := r.length - 1) (by omega)
  have hl := h _ e
  rcases Nat.lt_or_ge i (r.length - 1) with w | w
  · have := List.pairwise_iff_getElem.mp hr i (r.length - 1) h1 (by omega) w
    omega
  · have : i = r.length - 1 := by omega
    subst this
    exact hl
theorem CI.row {M M' : Im} {r r' : List Int} {E E' : Int} {l : List Pc} {Y : List (List Pc)} {mk_ an : Int} {w : List Int} {lk : Nat} (h : CI M r E l Y mk_ an w lk) (g : Ag (fun b => b = 0 ∨ b = 1) M M') (hI : ∀ j, j ≠ 1 → j ≠ 2 → gI M' 0 j = gI M 0 j) (hR : ∀ j, gR M' 0 j = gR M 0 j) (h1 : gI M' 0 1 = r'.length) (h2 : gI M' 0 2 = E') (hr : ∀ i v, r'[i]? = some v → gL M' 1 i = v) : CI M' r' E' l Y mk_ an w lk := by
  obtain ⟨a0, a1, ⟨t, t', a2, a3⟩, a4, ⟨b1, b2, b7, b8, b9⟩, a6, a7, a8⟩ := h
  obtain ⟨ht, ht', -⟩ := a2.TL
  have oT : ∀ u, u ∈ TL → ∀ b, u ≤ b → b ≤ u + 4 → ¬ (b = 0 ∨ b = 1) := fun u hu b hb1 hb2 w => by
    have f := TL_facts u hu
    omega
  refine ⟨g.k0 a0, a1.ag g (fun u hu => oT u hu (u + 4) (by omega) (by omega)), ⟨t, t', ⟨a2.1, by rw [hR]; exact a2.2.1, by rw [hR]; exact a2.2.2⟩, a3.ag g (oT t ht) (fun b hb => by omega)⟩, ?_, ⟨h1, h2, by rw [hI 7 (by omega) (by omega)]; exact b7, by rw [hI 8 (by omega) (by omega)]; exact b8, by rw [hI 9 (by omega) (by omega)]; exact b9⟩, hr, ?_, by rw [g.I (by omega)]; exact a8⟩
  · refine ⟨by rw [hI 6 (by omega) (by omega)]; exact a4.1, a4.2.1, fun i y hy => ?_⟩
    have := (List.getElem?_eq_some_iff.mp hy).1
    have hl := a4.2.1
    exact (a4.2.2 i y hy).ag g (oT _ (UT_in (by omega))) (fun b hb => by omega)
  · exact ⟨by rw [g.I (by omega)]; exact a7.1, fun j v hv => by rw [g.I (by omega)]; exact a7.2 j v hv⟩
theorem MI.row {M M' : Im} {r r' : List Int} {E E' : Int} {l : List Pc} {Y : List (List Pc)} {mk_ an : Int} {w : List Int} {lk : Nat} (h : MI M r E l Y mk_ an w lk) (g : Ag (fun b => b = 69 ∨ b = 70) M M') (hI : ∀ j, j ≠ 1 → j ≠ 2 → gI M' 69 j = gI M 69 j) (h1 : gI M' 69 1 = r'.length) (h2 : gI M' 69 2 = E') (hr : ∀ i v, r'[i]? = some v → gL M' 70 i = v) : MI M' r' E' l Y mk_ an w lk := by
  obtain ⟨⟨-, -, b9, b23, b24, b25, b40, b42, b46⟩, a2, a3, a4, a5⟩ := h
  refine ⟨⟨h1, h2, by rw [hI 9 (by omega) (by omega)]; exact b9, by rw [hI 23 (by omega) (by omega)]; exact b23, by rw [hI 24 (by omega) (by omega)]; exact b24, by rw [hI 25 (by omega) (by omega)]; exact b25, by rw [hI 40 (by omega) (by omega)]; exact b40, by rw [hI 42 (by omega) (by omega)]; exact b42, by rw [hI 46 (by omega) (by omega)]; exact b46⟩, hr, a3.ag g (fun b h1 h2 => by omega), a4.ag g (by omega) (by omega), fun j v hv => by rw [g.I (by omega)]; exact a5 j v hv⟩
theorem get_snoc {r : List Int} {k v : Int} {i : Nat} (h : (r ++ [k])[i]? = some v) : (i < r.length ∧ r[i]? = some v) ∨ (i = r.length ∧ v = k) := by
  rcases Nat.lt_or_ge i r.length with w | w
  · rw [List.getElem?_append_left w] at h; exact Or.inl ⟨w, h⟩
  · rw [List.getElem?_append_right w] at h
    have h0 : i - r.length = 0 := by
      have := (List.getElem?_eq_some_iff.mp h).1
      simp at this; omega
    rw [h0] at h
    simp at h
    exact Or.inr ⟨by omega, h.symm⟩
theorem st_load {n : Nat} {M : Im} (h : Good n M) (hn : n < 512) (k : Int) : sp_X4_load 0 k M (fun z M1 => sp_X5_load 69 k M1 (Fin_ n z)) := by
  have w1 : alen 1 = 300 := rfl
  have w70 : alen 70 = 300 := rfl
  obtain ⟨r, E, l, Y, mk_, an, w, lk, hc, hm, hw⟩ := h
  have G := Good.same hc hm hw hn
  obtain ⟨hk, -, -, -, ⟨c1, c2, -⟩, cr, -⟩ := id hc
  obtain ⟨⟨m1, m2, -⟩, mr, -⟩ := id hm
  obtain ⟨w0, ⟨wl, wr, wi⟩, -⟩ := id hw
  have bad : (¬ inR k ∨ ¬ abv r k) → sp_X5_load 69 k M (Fin_ n (-2)) := fun h => by
    unfold sp_X5_load
    refine ⟨iO_c hk (by decide) rfl, d_isKey hk (fun hi => ⟨fun h => (by omega), fun _ => ?_⟩) (fun hi => ⟨fun _ => ⟨rfl, G⟩, fun h => absurd rfl h⟩)⟩
    have h := h.resolve_left (fun w => w hi)
    rw [m1, w70]
    refine ⟨fun h0 => absurd (fun v hv => ?_) h, fun h0 => ⟨by omega, by omega, by omega, ?_⟩⟩
    · have := (List.getElem?_eq_some_iff.mp hv).1; omega
    · have e := List.getElem?_eq_getElem (l := r) (i := r.length - 1) (by omega)
      rw [show (((r.length : Nat) : Int) - 1).toNat = r.length - 1 by omega, mr _ _ e]
      exact ⟨fun hlt => absurd (fun v hv => by rw [e] at hv; cases hv; exact hlt) h, fun _ => ⟨rfl, G⟩⟩
  have good : inR k → abv r k → ∀ (u : Int) (M1 : Im), K0 ≤ gz M1 → (∀ j, gI M1 69 j = gI M 69 j) → (∀ j, gL M1 70 j = gL M 70 j) → sp_X5_load_34 69 k M1 (Fin_ n u) → sp_X5_load 69 k M1 (Fin_ n u) := by
    intro hi ha u M1 hk1 e69 e70 h34
    unfold sp_X5_load
    refine ⟨iO_c hk1 (by decide) rfl, d_isKey hk1 (fun _ => ⟨fun h => (by omega), fun _ => ?_⟩) (fun h => absurd hi h)⟩
    rw [e69, m1, w70]
    refine ⟨fun _ => h34, fun h0 => ⟨by omega, by omega, by omega, ?_⟩⟩
    have e := List.getElem?_eq_getElem (l := r) (i := r.length - 1) (by omega)
    rw [show (((r.length : Nat) : Int) - 1).toNat = r.length - 1 by omega, e70, mr _ _ e]
    exact ⟨fun _ => h34, fun h' => by have := ha _ e; omega⟩
  unfold sp_X4_load
  refine ⟨iO_c hk (by decide) rfl, c_isKey (fun hi => ⟨fun h => (by omega), fun _ => ?_⟩) (fun hi => ⟨fun _ => bad (Or.inl hi), fun h => absurd rfl h⟩)⟩
  refine c_isAboveRow hk c1 wl cr (fun ha => ⟨fun _ => ?_, fun h => (by omega)⟩) (fun ha => ⟨fun h => absurd rfl h, fun _ => bad (Or.inr ha)⟩)
  rw [c1, w1]
  refine ⟨fun hlt => ⟨by omega, ?_⟩, fun hge => ?_⟩
  · rintro M5 rfl
    rw [show ((r.length : Nat) : Int).toNat = r.length by omega]
    have e1 : gI (pL M 1 r.length k) 0 1 = r.length := c1
    rw [e1]
    refine ⟨by omega, ?_⟩
    rintro M6 rfl
    have g : Ag (fun b => b = 0 ∨ b = 1) M (pI (pL M 1 r.length k) 0 1 ((r.length : Int) + 1)) := ((Ag.refl (S := fun b => b = 0 ∨ b = 1)).pL (Or.inr rfl)).pI (Or.inl rfl)
    have a1 : gI (pI (pL M 1 r.length k) 0 1 ((r.length : Int) + 1)) 0 1 = (r.length : Int) + 1 := by simp [gI_pI, gI_pL, gI_pD, gI_pR, gI_pnw, gI_pcp, gL_pI, gL_pL, gL_pD, gL_pR, gL_pnw, gL_pcp, gD_pI, gD_pL, gD_pD, gD_pR, gD_pnw, gD_pcp, gR_pI, gR_pL, gR_pD, gR_pR, gR_pnw, gR_pcp, gz_pI, gz_pL, gz_pD, gz_pR, gz_pnw, gz_pcp]
    have aI : ∀ j, j ≠ 1 → gI (pI (pL M 1 r.length k) 0 1 ((r.length : Int) + 1)) 0 j = gI M 0 j := fun j hj => by simp [gI_pI, gI_pL, gI_pD, gI_pR, gI_pnw, gI_pcp, gL_pI, gL_pL, gL_pD, gL_pR, gL_pnw, gL_pcp, gD_pI, gD_pL, gD_pD, gD_pR, gD_pnw, gD_pcp, gR_pI, gR_pL, gR_pD, gR_pR, gR_pnw, gR_pcp, gz_pI, gz_pL, gz_pD, gz_pR, gz_pnw, gz_pcp, hj]
    have aR : ∀ j, gR (pI (pL M 1 r.length k) 0 1 ((r.length : Int) + 1)) 0 j = gR M 0 j := fun j => rfl
    have aL : ∀ j, gL (pI (pL M 1 r.length k) 0 1 ((r.length : Int) + 1)) 1 j = if j = r.length then k else gL M 1 j := fun j => by simp [gI_pI, gI_pL, gI_pD, gI_pR, gI_pnw, gI_pcp, gL_pI, gL_pL, gL_pD, gL_pR, gL_pnw, gL_pcp, gD_pI, gD_pL, gD_pD, gD_pR, gD_pnw, gD_pcp, gR_pI, gR_pL, gR_pD, gR_pR, gR_pnw, gR_pcp, gz_pI, gz_pL, gz_pD, gz_pR, gz_pnw, gz_pcp]
    generalize pI (pL M 1 r.length k) 0 1 ((r.length : Int) + 1) = M6 at g a1 aI aR aL
    have hlen : (r ++ [k]).length = r.length + 1 := by simp
    have hc6 : CI M6 (r ++ [k]) E l Y mk_ an w lk := hc.row g (fun j h1 _ => aI j h1) aR (by rw [a1, hlen]; omega) (by rw [aI 2 (by omega)]; exact c2) (fun i v hv => by
      rw [aL]
      rcases get_snoc hv with ⟨x1, x2⟩ | ⟨x1, x2⟩
      · rw [if_neg (by omega)]; exact cr i v x2
      · rw [if_pos x1]; exact x2.symm)
    have hm6 : MI M6 r E l Y mk_ an w lk := hm.ag g (fun b hb => by omega)
    have m16 : gI M6 69 1 = r.length := hm6.1.1
    rw [a1]
    refine good hi ha _ M6 (g.k0 hk) (fun j => g.I (by omega) j) (fun j => g.L (by omega) j) ?_
    unfold sp_X5_load_34
    rw [m16, w70]
    refine ⟨fun _ => ⟨by omega, ?_⟩, fun h => by omega⟩
    rintro M1 rfl
    rw [show ((r.length : Nat) : Int).toNat = r.length by omega]
    have e2 : gI (pL M6 70 r.length k) 69 1 = r.length := m16
    rw [e2]
    refine ⟨by omega, ?_⟩
    rintro M2 rfl
    have g2 : Ag (fun b => b = 69 ∨ b = 70) M6 (pI (pL M6 70 r.length k) 69 1 ((r.length : Int) + 1)) := ((Ag.refl (S := fun b => b = 69 ∨ b = 70)).pL (Or.inr rfl)).pI (Or.inl rfl)
    have b1 : gI (pI (pL M6 70 r.length k) 69 1 ((r.length : Int) + 1)) 69 1 = (r.length : Int) + 1 := by simp [gI_pI, gI_pL, gI_pD, gI_pR, gI_pnw, gI_pcp, gL_pI, gL_pL, gL_pD, gL_pR, gL_pnw, gL_pcp, gD_pI, gD_pL, gD_pD, gD_pR, gD_pnw, gD_pcp, gR_pI, gR_pL, gR_pD, gR_pR, gR_pnw, gR_pcp, gz_pI, gz_pL, gz_pD, gz_pR, gz_pnw, gz_pcp]
    have bI : ∀ j, j ≠ 1 → gI (pI (pL M6 70 r.length k) 69 1 ((r.length : Int) + 1)) 69 j = gI M6 69 j := fun j hj => by simp [gI_pI, gI_pL, gI_pD, gI_pR, gI_pnw, gI_pcp, gL_pI, gL_pL, gL_pD, gL_pR, gL_pnw, gL_pcp, gD_pI, gD_pL, gD_pD, gD_pR, gD_pnw, gD_pcp, gR_pI, gR_pL, gR_pD, gR_pR, gR_pnw, gR_pcp, gz_pI, gz_pL, gz_pD, gz_pR, gz_pnw, gz_pcp, hj]
    have bL : ∀ j, gL (pI (pL M6 70 r.length k) 69 1 ((r.length : Int) + 1)) 70 j = if j = r.length then k else gL M6 70 j := fun j => by simp [gI_pI, gI_pL, gI_pD, gI_pR, gI_pnw, gI_pcp, gL_pI, gL_pL, gL_pD, gL_pR, gL_pnw, gL_pcp, gD_pI, gD_pL, gD_pD, gD_pR, gD_pnw, gD_pcp, gR_pI, gR_pL, gR_pD, gR_pR, gR_pnw, gR_pcp, gz_pI, gz_pL, gz_pD, gz_pR, gz_pnw, gz_pcp]
    generalize pI (pL M6 70 r.length k) 69 1 ((r.length : Int) + 1) = M2 at g2 b1 bI bL
    refine ⟨by rw [b1], r ++ [k], E, l, Y, mk_, an, w, lk, hc6.ag g2 (fun b hb => by omega), hm6.row g2 (fun j h1 _ => bI j h1) (by rw [b1, hlen]; omega) (by rw [bI 2 (by omega)]; exact hm6.1.2.1) (fun i v hv => by
      rw [bL]
      rcases get_snoc hv with ⟨x1, x2⟩ | ⟨x1, x2⟩
      · rw [if_neg (by omega)]; exact hm6.2.1 i v x2
      · rw [if_pos x1]; exact x2.symm), ?_⟩
    have hw1 := hw.next hn
    obtain ⟨v0, -, v2⟩ := hw1
    refine ⟨v0, ⟨by rw [hlen]; omega, List.pairwise_append.mpr ⟨wr, by simp, fun x hx y hy => by simp at hy; rw [hy]; exact abv_all wr ha x hx⟩, fun x hx => ?_⟩, v2⟩
    rcases List.mem_append.mp hx with hx | hx
    · exact wi x hx
    · simp at hx; rw [hx]; exact hi
  · refine good hi ha _ M hk (fun _ => rfl) (fun _ => rfl) ?_
    unfold sp_X5_load_34
    rw [m1]
    exact ⟨fun h => by omega, fun _ => ⟨rfl, G⟩⟩
theorem st_wipe {n : Nat} {M : Im} (h : Good n M) (hn : n < 512) : sp_X4_wipe 0 M (fun z M1 => sp_X5_wipe 69 M1 (Fin_ n z)) := by
  obtain ⟨r, E, l, Y, mk_, an, w, lk, hc, hm, hw⟩ := h
  obtain ⟨hk, -, -, -, ⟨c1, c2, -⟩, cr, -⟩ := id hc
  obtain ⟨⟨m1, m2, -⟩, mr, -⟩ := id hm
  unfold sp_X4_wipe
  refine ⟨iO_c hk (by decide) rfl, ?_⟩
  rintro i1 rfl M2 rfl
  have g : Ag (fun b => b = 0 ∨ b = 1) M (pI M 0 1 0) := (Ag.refl (S := fun b => b = 0 ∨ b = 1)).pI (Or.inl rfl)
  have hc2 : CI (pI M 0 1 0) [] E l Y mk_ an w lk := hc.row g (fun j h1 _ => by simp [gI_pI, gI_pL, gI_pD, gI_pR, gI_pnw, gI_pcp, gL_pI, gL_pL, gL_pD, gL_pR, gL_pnw, gL_pcp, gD_pI, gD_pL, gD_pD, gD_pR, gD_pnw, gD_pcp, gR_pI, gR_pL, gR_pD, gR_pR, gR_pnw, gR_pcp, gz_pI, gz_pL, gz_pD, gz_pR, gz_pnw, gz_pcp, h1]) (fun _ => rfl) (by simp [gI_pI, gI_pL, gI_pD, gI_pR, gI_pnw, gI_pcp, gL_pI, gL_pL, gL_pD, gL_pR, gL_pnw, gL_pcp, gD_pI, gD_pL, gD_pD, gD_pR, gD_pnw, gD_pcp, gR_pI, gR_pL, gR_pD, gR_pR, gR_pnw, gR_pcp, gz_pI, gz_pL, gz_pD, gz_pR, gz_pnw, gz_pcp]) (by simp only [gI_pI, gI_pL, gI_pD, gI_pR, gI_pnw, gI_pcp, gL_pI, gL_pL, gL_pD, gL_pR, gL_pnw, gL_pcp, gD_pI, gD_pL, gD_pD, gD_pR, gD_pnw, gD_pcp, gR_pI, gR_pL, gR_pD, gR_pR, gR_pnw, gR_pcp, gz_pI, gz_pL, gz_pD, gz_pR, gz_pnw, gz_pcp]; rw [if_neg (by omega)]; exact c2) (fun i v hv => by simp at hv)
  have hm2 : MI (pI M 0 1 0) r E l Y mk_ an w lk := hm.ag g (fun b hb => by omega)
  unfold sp_X5_wipe
  refine ⟨iO_c (g.k0 hk) (by decide) rfl, ?_⟩
  rintro i1 rfl M3 rfl
  have g2 : Ag (fun b => b = 69 ∨ b = 70) (pI M 0 1 0) (pI (pI M 0 1 0) 69 1 0) := (Ag.refl (S := fun b => b = 69 ∨ b = 70)).pI (Or.inl rfl)
  have hw1 := hw.next hn
  obtain ⟨v0, -, v2⟩ := hw1
  refine ⟨by rw [c1, hm2.1.1], [], E, l, Y, mk_, an, w, lk, hc2.ag g2 (fun b hb => by omega), hm2.row g2 (fun j h1 _ => by simp [gI_pI, gI_pL, gI_pD, gI_pR, gI_pnw, gI_pcp, gL_pI, gL_pL, gL_pD, gL_pR, gL_pnw, gL_pcp, gD_pI, gD_pL, gD_pD, gD_pR, gD_pnw, gD_pcp, gR_pI, gR_pL, gR_pD, gR_pR, gR_pnw, gR_pcp, gz_pI, gz_pL, gz_pD, gz_pR, gz_pnw, gz_pcp, h1]) (by simp [gI_pI, gI_pL, gI_pD, gI_pR, gI_pnw, gI_pcp, gL_pI, gL_pL, gL_pD, gL_pR, gL_pnw, gL_pcp, gD_pI, gD_pL, gD_pD, gD_pR, gD_pnw, gD_pcp, gR_pI, gR_pL, gR_pD, gR_pR, gR_pnw, gR_pcp, gz_pI, gz_pL, gz_pD, gz_pR, gz_pnw, gz_pcp]) (by simp only [gI_pI, gI_pL, gI_pD, gI_pR, gI_pnw, gI_pcp, gL_pI, gL_pL, gL_pD, gL_pR, gL_pnw, gL_pcp, gD_pI, gD_pL, gD_pD, gD_pR, gD_pnw, gD_pcp, gR_pI, gR_pL, gR_pD, gR_pR, gR_pnw, gR_pcp, gz_pI, gz_pL, gz_pD, gz_pR, gz_pnw, gz_pcp]; rw [if_neg (by omega)]; exact hm2.1.2.1) (fun i v hv => by simp at hv), v0, ⟨by simp, List.Pairwise.nil, fun x hx => by simp at hx⟩, v2⟩
theorem c_isMargin {M : Im} {e : Int} {Q : Int → Im → Prop} (h1 : 0 ≤ e ∧ e ≤ 40 → Q 1 M) (h0 : ¬ (0 ≤ e ∧ e ≤ 40) → Q 0 M) : sp_X4_isMargin e M Q := by
  unfold sp_X4_isMargin
  exact ⟨fun h => ⟨Or.inl rfl, h0 (by omega)⟩, fun h => ⟨fun h' => ⟨Or.inl rfl, h0 (by omega)⟩, fun h' => ⟨Or.inr rfl, h1 ⟨h, h'⟩⟩⟩⟩
theorem st_margin {n : Nat} {M : Im} (h : Good n M) (hn : n < 512) (e : Int) : sp_X4_margin 0 e M (fun z M1 => sp_X5_margin 69 e M1 (Fin_ n z)) := by
  obtain ⟨r, E, l, Y, mk_, an, w, lk, hc, hm, hw⟩ := h
  have G := Good.same hc hm hw hn
  obtain ⟨hk, -, -, -, ⟨c1, c2, -⟩, cr, -⟩ := id hc
  obtain ⟨⟨m1, m2, -⟩, mr, -⟩ := id hm
  unfold sp_X4_margin
  refine ⟨iO_c hk (by decide) rfl, c_isMargin (fun he => ⟨fun _ => ?_, fun h => (by omega)⟩) (fun he => ⟨fun h => absurd rfl h, fun _ => ?_⟩)⟩
  · rintro i3 rfl M4 rfl
    have g : Ag (fun b => b = 0 ∨ b = 1) M (pI M 0 2 e) := (Ag.refl (S := fun b => b = 0 ∨ b = 1)).pI (Or.inl rfl)
    have hc2 : CI (pI M 0 2 e) r e l Y mk_ an w lk := hc.row g (fun j _ h2 => by simp [gI_pI, gI_pL, gI_pD, gI_pR, gI_pnw, gI_pcp, gL_pI, gL_pL, gL_pD, gL_pR, gL_pnw, gL_pcp, gD_pI, gD_pL, gD_pD, gD_pR, gD_pnw, gD_pcp, gR_pI, gR_pL, gR_pD, gR_pR, gR_pnw, gR_pcp, gz_pI, gz_pL, gz_pD, gz_pR, gz_pnw, gz_pcp, h2]) (fun _ => rfl) (by simp only [gI_pI, gI_pL, gI_pD, gI_pR, gI_pnw, gI_pcp, gL_pI, gL_pL, gL_pD, gL_pR, gL_pnw, gL_pcp, gD_pI, gD_pL, gD_pD, gD_pR, gD_pnw, gD_pcp, gR_pI, gR_pL, gR_pD, gR_pR, gR_pnw, gR_pcp, gz_pI, gz_pL, gz_pD, gz_pR, gz_pnw, gz_pcp]; rw [if_neg (by omega)]; exact c1) (by simp [gI_pI, gI_pL, gI_pD, gI_pR, gI_pnw, gI_pcp, gL_pI, gL_pL, gL_pD, gL_pR, gL_pnw, gL_pcp, gD_pI, gD_pL, gD_pD, gD_pR, gD_pnw, gD_pcp, gR_pI, gR_pL, gR_pD, gR_pR, gR_pnw, gR_pcp, gz_pI, gz_pL, gz_pD, gz_pR, gz_pnw, gz_pcp]) (fun i v hv => cr i v hv)
    have hm2 : MI (pI M 0 2 e) r E l Y mk_ an w lk := hm.ag g (fun b hb => by omega)
    unfold sp_X5_margin
    refine ⟨iO_c (g.k0 hk) (by decide) rfl, fun h => by omega, fun _ => ⟨fun _ => ?_, fun h => by omega⟩⟩
    rintro i1 rfl M3 rfl
    have g2 : Ag (fun b => b = 69 ∨ b = 70) (pI M 0 2 e) (pI (pI M 0 2 e) 69 2 e) := (Ag.refl (S := fun b => b = 69 ∨ b = 70)).pI (Or.inl rfl)
    have hw1 := hw.next hn
    obtain ⟨v0, v1, -, v3⟩ := hw1
    exact ⟨by rw [c2, hm2.1.2.1], r, e, l, Y, mk_, an, w, lk, hc2.ag g2 (fun b hb => by omega), hm2.row g2 (fun j _ h2 => by simp [gI_pI, gI_pL, gI_pD, gI_pR, gI_pnw, gI_pcp, gL_pI, gL_pL, gL_pD, gL_pR, gL_pnw, gL_pcp, gD_pI, gD_pL, gD_pD, gD_pR, gD_pnw, gD_pcp, gR_pI, gR_pL, gR_pD, gR_pR, gR_pnw, gR_pcp, gz_pI, gz_pL, gz_pD, gz_pR, gz_pnw, gz_pcp, h2]) (by simp only [gI_pI, gI_pL, gI_pD, gI_pR, gI_pnw, gI_pcp, gL_pI, gL_pL, gL_pD, gL_pR, gL_pnw, gL_pcp, gD_pI, gD_pL, gD_pD, gD_pR, gD_pnw, gD_pcp, gR_pI, gR_pL, gR_pD, gR_pR, gR_pnw, gR_pcp, gz_pI, gz_pL, gz_pD, gz_pR, gz_pnw, gz_pcp]; rw [if_neg (by omega)]; exact m1) (by simp [gI_pI, gI_pL, gI_pD, gI_pR, gI_pnw, gI_pcp, gL_pI, gL_pL, gL_pD, gL_pR, gL_pnw, gL_pcp, gD_pI, gD_pL, gD_pD, gD_pR, gD_pnw, gD_pcp, gR_pI, gR_pL, gR_pD, gR_pR, gR_pnw, gR_pcp, gz_pI, gz_pL, gz_pD, gz_pR, gz_pnw, gz_pcp]) (fun i v hv => hm2.2.1 i v hv), v0, v1, he, v3⟩
  · unfold sp_X5_margin
    exact ⟨iO_c hk (by decide) rfl, fun _ => ⟨rfl, G⟩, fun h => ⟨fun h' => by omega, fun _ => ⟨rfl, G⟩⟩⟩
/-! fill -/
def fills (f s : Int) (k : Nat) : List Int := (List.range k).map fun (i : Nat) => f + (i : Int) * s
theorem fills_len (f s : Int) (k : Nat) : (fills f s k).length = k := by unfold fills; simp
theorem fills_get {f s : Int} {k i : Nat} {v : Int} (h : (fills f s k)[i]? = some v) : i < k ∧ v = f + (i : Int) * s := by
  have hi := (List.getElem?_eq_some_iff.mp h).1
  rw [fills_len] at hi
  unfold fills at h
  rw [List.getElem?_map, List.getElem?_range hi] at h
  exact ⟨hi, by simpa using h.symm⟩
theorem c_fill_68 {f s : Int} {k : Nat} {r : List Int} {Q : Int → Im → Prop} {K : Nat → Int → Im → Prop} (hs : 1 ≤ s) (hk300 : r.length + k ≤ 300) (hf : inR f) (hlast : ((k : Int) - 1) * s ≤ 1000000000000 - f) :
    ∀ (d i : Nat) {M : Im}, i + d = k → gI M 0 1 = r.length → (∀ M', Ag (· = 1) M M' → (∀ j, i ≤ j → j < k → gL M' 1 (r.length + j) = f + (j : Int) * s) → (∀ j, j < r.length + i → gL M' 1 j = gL M 1 j) → K 0 k M') → sp_X4_fill_68 (d + 1) 0 f s k i M Q K
  | 0, i, M, h, h1, hQ => by
    unfold sp_X4_fill_68
    exact ⟨fun _ => hQ M Ag.refl (fun j h1 h2 => by omega) (fun _ _ => rfl), fun h => by omega⟩
  | d + 1, i, M, h, h1, hQ => by
    have w1 : alen 1 = 300 := rfl
    unfold inR at hf
    have b1 : 0 ≤ (i : Int) * s := Int.mul_nonneg (by omega) (by omega)
    have b2 : (i : Int) * s ≤ ((k : Int) - 1) * s := Int.mul_le_mul_of_nonneg_right (by omega) (by omega)
    unfold sp_X4_fill_68
    rw [h1, w1]
    refine ⟨fun h => by omega, fun _ => ⟨by omega, by omega, by omega, by omega, by omega, ?_⟩⟩
    rintro M1 rfl
    refine ⟨by omega, ?_⟩
    rintro i2 rfl
    rw [show (((r.length : Nat) : Int) + ((i : Nat) : Int)).toNat = r.length + i by omega, show (i : Int) + 1 = ((i + 1 : Nat) : Int) by omega]
    have g : Ag (· = 1) M (pL M 1 (r.length + i) (f + (i : Int) * s)) := (Ag.refl (S := (· = 1))).pL rfl
    refine c_fill_68 hs hk300 hf hlast d (i + 1) (by omega) h1 fun M' g' h1' h2' => hQ M' (g.trans g') (fun j j1 j2 => ?_) (fun j hj => ?_)
    · by_cases e : j = i
      · subst e
        rw [h2' (r.length + j) (by omega)]; simp [gI_pI, gI_pL, gI_pD, gI_pR, gI_pnw, gI_pcp, gL_pI, gL_pL, gL_pD, gL_pR, gL_pnw, gL_pcp, gD_pI, gD_pL, gD_pD, gD_pR, gD_pnw, gD_pcp, gR_pI, gR_pL, gR_pD, gR_pR, gR_pnw, gR_pcp, gz_pI, gz_pL, gz_pD, gz_pR, gz_pnw, gz_pcp]
      · exact h1' j (by omega) j2
    · rw [h2' j (by omega)]
      simp only [gI_pI, gI_pL, gI_pD, gI_pR, gI_pnw, gI_pcp, gL_pI, gL_pL, gL_pD, gL_pR, gL_pnw, gL_pcp, gD_pI, gD_pL, gD_pD, gD_pR, gD_pnw, gD_pcp, gR_pI, gR_pL, gR_pD, gR_pR, gR_pnw, gR_pcp, gz_pI, gz_pL, gz_pD, gz_pR, gz_pnw, gz_pcp]; rw [if_neg (by omega)]
theorem d_fill_93 {f s : Int} {k : Nat} {r : List Int} {Q : Int → Im → Prop} {K : Nat → Im → Prop} (hs : 1 ≤ s) (hk300 : r.length + k ≤ 300) (hf : inR f) (hlast : ((k : Int) - 1) * s ≤ 1000000000000 - f) :
    ∀ (d i : Nat) {M : Im}, i + d = k → gI M 69 1 = ((r.length + i : Nat) : Int) → (∀ M', Ag (fun b => b = 69 ∨ b = 70) M M' → (∀ j, j ≠ 1 → gI M' 69 j = gI M 69 j) → gI M' 69 1 = ((r.length + k : Nat) : Int) → (∀ j, i ≤ j → j < k → gL M' 70 (r.length + j) = f + (j : Int) * s) → (∀ j, j < r.length + i → gL M' 70 j = gL M 70 j) → K 69 M') → sp_X5_fill_93 (d + 1) 69 f s k i M Q K
  | 0, i, M, h, h1, hQ => by
    unfold sp_X5_fill_93
    refine ⟨fun _ => hQ M Ag.refl (fun _ _ => rfl) ?_ (fun j h1 h2 => by omega) (fun _ _ => rfl), fun h => by omega⟩
    rw [h1]; congr 1; omega
  | d + 1, i, M, h, h1, hQ => by
    have w70 : alen 70 = 300 := rfl
    unfold inR at hf
    have b1 : 0 ≤ (i : Int) * s := Int.mul_nonneg (by omega) (by omega)
    have b2 : (i : Int) * s ≤ ((k : Int) - 1) * s := Int.mul_le_mul_of_nonneg_right (by omega) (by omega)
    have cm : s * (i : Int) = (i : Int) * s := Int.mul_comm ..
    unfold sp_X5_fill_93
    rw [h1, w70, cm, show ((r.length + i : Nat) : Int).toNat = r.length + i by omega]
    refine ⟨fun h => by omega, fun _ => ⟨by omega, by omega, by omega, ?_⟩⟩
    rintro M1 rfl
    have e1 : gI (pL M 70 (r.length + i) (f + (i : Int) * s)) 69 1 = ((r.length + i : Nat) : Int) := h1
    rw [e1]
    refine ⟨by omega, ?_⟩
    rintro M2 rfl
    refine ⟨by omega, ?_⟩
    rintro i3 rfl
    rw [show (i : Int) + 1 = ((i + 1 : Nat) : Int) by omega]
    have g : Ag (fun b => b = 69 ∨ b = 70) M (pI (pL M 70 (r.length + i) (f + (i : Int) * s)) 69 1 (((r.length + i : Nat) : Int) + 1)) := ((Ag.refl (S := fun b => b = 69 ∨ b = 70)).pL (Or.inr rfl)).pI (Or.inl rfl)
    have a1 : gI (pI (pL M 70 (r.length + i) (f + (i : Int) * s)) 69 1 (((r.length + i : Nat) : Int) + 1)) 69 1 = ((r.length + (i + 1) : Nat) : Int) := by simp [gI_pI, gI_pL, gI_pD, gI_pR, gI_pnw, gI_pcp, gL_pI, gL_pL, gL_pD, gL_pR, gL_pnw, gL_pcp, gD_pI, gD_pL, gD_pD, gD_pR, gD_pnw, gD_pcp, gR_pI, gR_pL, gR_pD, gR_pR, gR_pnw, gR_pcp, gz_pI, gz_pL, gz_pD, gz_pR, gz_pnw, gz_pcp]; omega
    have ao : ∀ j, j ≠ 1 → gI (pI (pL M 70 (r.length + i) (f + (i : Int) * s)) 69 1 (((r.length + i : Nat) : Int) + 1)) 69 j = gI M 69 j := fun j hj => by simp [gI_pI, gI_pL, gI_pD, gI_pR, gI_pnw, gI_pcp, gL_pI, gL_pL, gL_pD, gL_pR, gL_pnw, gL_pcp, gD_pI, gD_pL, gD_pD, gD_pR, gD_pnw, gD_pcp, gR_pI, gR_pL, gR_pD, gR_pR, gR_pnw, gR_pcp, gz_pI, gz_pL, gz_pD, gz_pR, gz_pnw, gz_pcp, hj]
    have aL : ∀ j, gL (pI (pL M 70 (r.length + i) (f + (i : Int) * s)) 69 1 (((r.length + i : Nat) : Int) + 1)) 70 j = if j = r.length + i then f + (i : Int) * s else gL M 70 j := fun j => by simp [gI_pI, gI_pL, gI_pD, gI_pR, gI_pnw, gI_pcp, gL_pI, gL_pL, gL_pD, gL_pR, gL_pnw, gL_pcp, gD_pI, gD_pL, gD_pD, gD_pR, gD_pnw, gD_pcp, gR_pI, gR_pL, gR_pD, gR_pR, gR_pnw, gR_pcp, gz_pI, gz_pL, gz_pD, gz_pR, gz_pnw, gz_pcp]
    generalize pI (pL M 70 (r.length + i) (f + (i : Int) * s)) 69 1 (((r.length + i : Nat) : Int) + 1) = M2 at g a1 ao aL
    refine d_fill_93 hs hk300 hf hlast d (i + 1) (by omega) a1 fun M' g' o' n' h1' h2' => hQ M' (g.trans g') (fun j hj => (o' j hj).trans (ao j hj)) n' (fun j j1 j2 => ?_) (fun j hj => ?_)
    · by_cases e : j = i
      · subst e
        rw [h2' (r.length + j) (by omega), aL, if_pos rfl]
      · exact h1' j (by omega) j2
    · rw [h2' j (by omega), aL, if_neg (by omega)]
theorem get_fills {r : List Int} {f s v : Int} {k i : Nat} (h : (r ++ fills f s k)[i]? = some v) : (i < r.length ∧ r[i]? = some v) ∨ ∃ j, j < k ∧ i = r.length + j ∧ v = f + (j : Int) * s := by
  rcases Nat.lt_or_ge i r.length with w | w
  · rw [List.getElem?_append_left w] at h; exact Or.inl ⟨w, h⟩
  · rw [List.getElem?_append_right w] at h
    obtain ⟨h1, h2⟩ := fills_get h
    exact Or.inr ⟨i - r.length, h1, by omega, h2⟩
theorem st_fill {n : Nat} {M : Im} (h : Good n M) (hn : n < 512) (f s c : Int) (hc31 : c < 2147483648) (hs63 : s < 9223372036854775808) : sp_X4_fill 0 f s c M (fun z M1 => sp_X5_fill 69 f s c M1 (Fin_ n z)) := by
  have w1 : alen 1 = 300 := rfl
  have w70 : alen 70 = 300 := rfl
  obtain ⟨r, E, l, Y, mk_, an, w, lk, hc, hm, hw⟩ := h
  have G := Good.same hc hm hw hn
  obtain ⟨hk, -, -, -, ⟨c1, c2, -⟩, cr, -⟩ := id hc
  obtain ⟨⟨m1, m2, -⟩, mr, -⟩ := id hm
  obtain ⟨w0, ⟨wl, wr, wi⟩, -⟩ := id hw
  -- the model, from the point where the row is looked at
  have mod : ∀ (u : Int) (M1 : Im), 1 ≤ c → 1 ≤ s → inR f → K0 ≤ gz M1 → (∀ j, gI M1 69 j = gI M 69 j) → (∀ j, gL M1 70 j = gL M 70 j) → (abv r f → sp_X5_fill_46 69 f s c M1 (Fin_ n u)) → (¬ abv r f → Fin_ n u (-2) M1) → sp_X5_fill 69 f s c M1 (Fin_ n u) := by
    intro u M1 h1 h2 hi hk1 e69 e70 g1 g0
    unfold sp_X5_fill
    refine ⟨iO_c hk1 (by decide) rfl, fun h => by omega, fun _ => ⟨fun h => by omega, fun _ => d_isKey hk1 (fun _ => ⟨fun h => (by omega), fun _ => ?_⟩) (fun h => absurd hi h)⟩⟩
    rw [e69, m1, w70]
    refine ⟨fun h0 => g1 fun v hv => ?_, fun h0 => ⟨by omega, by omega, by omega, ?_⟩⟩
    · have := (List.getElem?_eq_some_iff.mp hv).1; omega
    · have e := List.getElem?_eq_getElem (l := r) (i := r.length - 1) (by omega)
      rw [show (((r.length : Nat) : Int) - 1).toNat = r.length - 1 by omega, e70, mr _ _ e]
      exact ⟨fun hlt => g1 fun v hv => by rw [e] at hv; cases hv; exact hlt, fun hge => g0 fun w => by have := w _ e; omega⟩
  unfold sp_X4_fill
  refine ⟨iO_c hk (by decide) rfl, fun h => ?_, fun hc1 => ⟨fun h => ?_, fun hs1 => c_isKey (fun hi => ⟨fun h => (by omega), fun _ => ?_⟩) (fun hi => ⟨fun _ => ?_, fun h => absurd rfl h⟩)⟩⟩
  · unfold sp_X5_fill
    exact ⟨iO_c hk (by decide) rfl, fun _ => ⟨rfl, G⟩, fun h' => by omega⟩
  · unfold sp_X5_fill
    exact ⟨iO_c hk (by decide) rfl, fun h' => by omega, fun _ => ⟨fun _ => ⟨rfl, G⟩, fun h' => by omega⟩⟩
  · have hi' := hi
    unfold inR at hi'
    refine c_isAboveRow hk c1 wl cr (fun ha => ⟨fun _ => ?_, fun h => (by omega)⟩) (fun ha => ⟨fun h => absurd rfl h, fun _ => mod _ M hc1 hs1 hi hk (fun _ => rfl) (fun _ => rfl) (fun h => absurd h ha) (fun _ => ⟨rfl, G⟩)⟩)
    have t1 : (1000000000000 - f).tdiv s = (1000000000000 - f) / s := Int.tdiv_eq_ediv_of_nonneg (by omega)
    have d1 : 0 ≤ (1000000000000 - f) / s := Int.ediv_nonneg (by omega) (by omega)
    have d2 : (1000000000000 - f) / s ≤ 1000000000000 - f := Int.ediv_le_self _ (by omega)
    have e1 : (c - 1) ≤ (1000000000000 - f) / s ↔ (c - 1) * s ≤ 1000000000000 - f := Int.le_ediv_iff_mul_le (by omega)
    -- the model behind its first tests
    have m46 : ∀ (u : Int) (M1 : Im), ((c - 1) * s ≤ 1000000000000 - f → sp_X5_fill_71 69 f s c M1 (Fin_ n u)) → (¬ (c - 1) * s ≤ 1000000000000 - f → Fin_ n u (-2) M1) → sp_X5_fill_46 69 f s c M1 (Fin_ n u) := by
      intro u M1 g1 g0
      unfold sp_X5_fill_46
      refine ⟨fun h => g1 ?_, fun h => ?_⟩
      · rw [show c = 1 by omega]; simp; omega
      · have t2 : (1000000000000 - f).tdiv (c - 1) = (1000000000000 - f) / (c - 1) := Int.tdiv_eq_ediv_of_nonneg (by omega)
        have d3 : 0 ≤ (1000000000000 - f) / (c - 1) := Int.ediv_nonneg (by omega) (by omega)
        have d4 : (1000000000000 - f) / (c - 1) ≤ 1000000000000 - f := Int.ediv_le_self _ (by omega)
        have e2 : s ≤ (1000000000000 - f) / (c - 1) ↔ s * (c - 1) ≤ 1000000000000 - f := Int.le_ediv_iff_mul_le (by omega)
        have cm : s * (c - 1) = (c - 1) * s := Int.mul_comm ..
        rw [cm] at e2
        rw [t2]
        exact ⟨by omega, by omega, by omega, by omega, by omega, fun h' => g1 (e2.mp h'), fun h' => g0 fun w => by have := e2.mpr w; omega⟩
    rw [t1, c1]
    refine ⟨by omega, by omega, by omega, by omega, fun hle => ⟨by omega, fun hfit => ?_, fun hfull => ?_⟩, fun hgt => ?_⟩
    · have hlast := e1.mp hle
      obtain ⟨k, hkc⟩ : ∃ k : Nat, c = (k : Int) := ⟨c.toNat, by omega⟩
      subst hkc
      refine ⟨k + 1, ?_⟩
      refine c_fill_68 (r := r) hs1 (by omega) hi hlast k 0 (by omega) c1 fun M1 g1 h1 h2 => ?_
      have e0 : gI M1 0 1 = r.length := by rw [g1.I (by omega)]; exact c1
      rw [e0]
      refine ⟨by omega, ?_⟩
      rintro M3 rfl
      have g : Ag (fun b => b = 0 ∨ b = 1) M (pI M1 0 1 (((r.length : Nat) : Int) + (k : Int))) := ((g1.mono (S' := fun b => b = 0 ∨ b = 1) (fun b hb => Or.inr hb))).pI (Or.inl rfl)
      have a1 : gI (pI M1 0 1 (((r.length : Nat) : Int) + (k : Int))) 0 1 = ((r.length : Nat) : Int) + (k : Int) := by simp [gI_pI, gI_pL, gI_pD, gI_pR, gI_pnw, gI_pcp, gL_pI, gL_pL, gL_pD, gL_pR, gL_pnw, gL_pcp, gD_pI, gD_pL, gD_pD, gD_pR, gD_pnw, gD_pcp, gR_pI, gR_pL, gR_pD, gR_pR, gR_pnw, gR_pcp, gz_pI, gz_pL, gz_pD, gz_pR, gz_pnw, gz_pcp]
      have aI : ∀ j, j ≠ 1 → gI (pI M1 0 1 (((r.length : Nat) : Int) + (k : Int))) 0 j = gI M 0 j := fun j hj => by simp only [gI_pI, gI_pL, gI_pD, gI_pR, gI_pnw, gI_pcp, gL_pI, gL_pL, gL_pD, gL_pR, gL_pnw, gL_pcp, gD_pI, gD_pL, gD_pD, gD_pR, gD_pnw, gD_pcp, gR_pI, gR_pL, gR_pD, gR_pR, gR_pnw, gR_pcp, gz_pI, gz_pL, gz_pD, gz_pR, gz_pnw, gz_pcp]; rw [if_neg (by omega), g1.I (by omega)]
      have aR : ∀ j, gR (pI M1 0 1 (((r.length : Nat) : Int) + (k : Int))) 0 j = gR M 0 j := fun j => by simp only [gI_pI, gI_pL, gI_pD, gI_pR, gI_pnw, gI_pcp, gL_pI, gL_pL, gL_pD, gL_pR, gL_pnw, gL_pcp, gD_pI, gD_pL, gD_pD, gD_pR, gD_pnw, gD_pcp, gR_pI, gR_pL, gR_pD, gR_pR, gR_pnw, gR_pcp, gz_pI, gz_pL, gz_pD, gz_pR, gz_pnw, gz_pcp]; exact g1.R (by omega) j
      have aL : ∀ j, gL (pI M1 0 1 (((r.length : Nat) : Int) + (k : Int))) 1 j = gL M1 1 j := fun j => rfl
      generalize pI M1 0 1 (((r.length : Nat) : Int) + (k : Int)) = M3 at g a1 aI aR aL
      have hlen : (r ++ fills f s k).length = r.length + k := by rw [List.length_append, fills_len]
      have hc3 : CI M3 (r ++ fills f s k) E l Y mk_ an w lk := hc.row g (fun j h1 _ => aI j h1) aR (by rw [a1, hlen]; omega) (by rw [aI 2 (by omega)]; exact c2) (fun i v hv => by
        rw [aL]
        rcases get_fills hv with ⟨x1, x2⟩ | ⟨j, x1, x2, x3⟩
        · rw [h2 i (by omega)]; exact cr i v x2
        · rw [x2, h1 j (Nat.zero_le _) x1]; exact x3.symm)
      have hm3 : MI M3 r E l Y mk_ an w lk := hm.ag g (fun b hb => by omega)
      rw [a1]
      refine mod _ M3 hc1 hs1 hi (g.k0 hk) (fun j => g.I (by omega) j) (fun j => g.L (by omega) j) (fun _ => m46 _ M3 (fun _ => ?_) (fun h => absurd hlast h)) (fun h => absurd ha h)
      unfold sp_X5_fill_71
      rw [hm3.1.1]
      refine ⟨by omega, fun _ => ⟨k + 1, ?_⟩, fun h => by omega⟩
      refine d_fill_93 (r := r) hs1 (by omega) hi hlast k 0 (by omega) (by rw [Nat.add_zero]; exact hm3.1.1) fun M4 g4 o4 n4 h3 h4 => ?_
      have hw1 := hw.next hn
      obtain ⟨v0, -, v2⟩ := hw1
      have hfi : ∀ j : Nat, j < k → inR (f + (j : Int) * s) := fun j hj => by
        have b1 : 0 ≤ (j : Int) * s := Int.mul_nonneg (by omega) (by omega)
        have b2 : (j : Int) * s ≤ ((k : Int) - 1) * s := Int.mul_le_mul_of_nonneg_right (by omega) (by omega)
        unfold inR; omega
      refine ⟨by rw [n4]; omega, r ++ fills f s k, E, l, Y, mk_, an, w, lk, hc3.ag g4 (fun b hb => by omega), hm3.row g4 (fun j h1 _ => o4 j h1) (by rw [n4, hlen]) (by rw [o4 2 (by omega)]; exact hm3.1.2.1) (fun i v hv => ?_), v0, ⟨by rw [hlen]; omega, List.pairwise_append.mpr ⟨wr, ?_, fun x hx y hy => ?_⟩, fun x hx => ?_⟩, v2⟩
      · rcases get_fills hv with ⟨x1, x2⟩ | ⟨j, x1, x2, x3⟩
        · rw [h4 i (by omega)]; exact hm3.2.1 i v x2
        · rw [x2, h3 j (Nat.zero_le _) x1]; exact x3.symm
      · refine List.pairwise_iff_getElem.mpr fun i j hi1 hj1 hij => ?_
        have x1 := fills_get (List.getElem?_eq_getElem hi1)
        have x2 := fills_get (List.getElem?_eq_getElem hj1)
        rw [x1.2, x2.2]
        have b2 : ((i : Int) + 1) * s ≤ (j : Int) * s := Int.mul_le_mul_of_nonneg_right (by omega) (by omega)
        rw [Int.add_mul] at b2
        omega
      · obtain ⟨j, hj⟩ := List.mem_iff_getElem?.mp hy
        obtain ⟨j1, j2⟩ := fills_get hj
        have b1 : 0 ≤ (j : Int) * s := Int.mul_nonneg (by omega) (by omega)
        have := abv_all wr ha x hx
        omega
      · rcases List.mem_append.mp hx with hx | hx
        · exact wi x hx
        · obtain ⟨j, hj⟩ := List.mem_iff_getElem?.mp hx
          obtain ⟨j1, j2⟩ := fills_get hj
          rw [j2]; exact hfi j j1
    · refine mod _ M hc1 hs1 hi hk (fun _ => rfl) (fun _ => rfl) (fun _ => m46 _ M (fun _ => ?_) (fun h => absurd (e1.mp hle) h)) (fun h => absurd ha h)
      unfold sp_X5_fill_71
      rw [m1]
      exact ⟨by omega, fun h => by omega, fun _ => ⟨rfl, G⟩⟩
    · exact mod _ M hc1 hs1 hi hk (fun _ => rfl) (fun _ => rfl) (fun _ => m46 _ M (fun h => by have := e1.mpr h; omega) (fun _ => ⟨rfl, G⟩)) (fun h => absurd ha h)
  · unfold sp_X5_fill
    exact ⟨iO_c hk (by decide) rfl, fun h => by omega, fun _ => ⟨fun h => by omega, fun _ => d_isKey hk (fun h => absurd h hi) (fun _ => ⟨fun _ => ⟨rfl, G⟩, fun h => absurd rfl h⟩)⟩⟩
