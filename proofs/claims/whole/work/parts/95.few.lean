/-! ===== the row: few, passes, span ===== -/
theorem d_take_2 {r : List Int} {Q K : Im → Prop} (hl : r.length ≤ 300) : ∀ (d i : Nat) {M : Im}, i + d = r.length → gI M 69 1 = r.length → (∀ i v, r[i]? = some v → gL M 70 i = v) → (∀ M', Ag (· = 71) M M' → (∀ j, i ≤ j → j < r.length → gL M' 71 j = lf r j) → (∀ j, j < i → gL M' 71 j = gL M 71 j) → K M') → sp_X5_take_2 (d + 1) 69 i M Q K
  | 0, i, M, h, h1, hr, hQ => by
    unfold sp_X5_take_2
    rw [h1]
    exact ⟨fun _ => hQ M Ag.refl (fun j h1 h2 => by omega) (fun _ _ => rfl), fun h => by omega⟩
  | d + 1, i, M, h, h1, hr, hQ => by
    have w70 : alen 70 = 300 := rfl
    have w71 : alen 71 = 5000 := rfl
    have e := List.getElem?_eq_getElem (l := r) (i := i) (by omega)
    unfold sp_X5_take_2
    rw [h1, w70, w71, show ((i : Nat) : Int).toNat = i by omega, hr _ _ e]
    refine ⟨fun h => by omega, fun _ => ⟨by omega, by omega, ?_⟩⟩
    rintro M1 rfl
    refine ⟨by omega, ?_⟩
    rintro i2 rfl
    rw [show (i : Int) + 1 = ((i + 1 : Nat) : Int) by omega]
    have el := lf_of e
    generalize r[i] = x at *
    have g : Ag (· = 71) M (pL M 71 i x) := (Ag.refl (S := (· = 71))).pL rfl
    refine d_take_2 hl d (i + 1) (by omega) h1 (fun j v hv => by rw [g.L (by omega)]; exact hr j v hv) fun M' g' h1' h2' => hQ M' (g.trans g') (fun j j1 j2 => ?_) (fun j hj => ?_)
    · by_cases c : j = i
      · subst c
        rw [h2' j (by omega), el]; simp [gI_pI, gI_pL, gI_pD, gI_pR, gI_pnw, gI_pcp, gL_pI, gL_pL, gL_pD, gL_pR, gL_pnw, gL_pcp, gD_pI, gD_pL, gD_pD, gD_pR, gD_pnw, gD_pcp, gR_pI, gR_pL, gR_pD, gR_pR, gR_pnw, gR_pcp, gz_pI, gz_pL, gz_pD, gz_pR, gz_pnw, gz_pcp]
      · exact h1' j (by omega) j2
    · rw [h2' j (by omega)]
      simp only [gI_pI, gI_pL, gI_pD, gI_pR, gI_pnw, gI_pcp, gL_pI, gL_pL, gL_pD, gL_pR, gL_pnw, gL_pcp, gD_pI, gD_pL, gD_pD, gD_pR, gD_pnw, gD_pcp, gR_pI, gR_pL, gR_pD, gR_pR, gR_pnw, gR_pcp, gz_pI, gz_pL, gz_pD, gz_pR, gz_pnw, gz_pcp]; rw [if_neg (by omega)]
theorem d_take {M : Im} {r : List Int} {Q : Im → Prop} (hk : K0 ≤ gz M) (hl : r.length ≤ 300) (h1 : gI M 69 1 = r.length) (hr : ∀ i v, r[i]? = some v → gL M 70 i = v) (hQ : ∀ M', Ag (· = 71) M M' → (∀ j, j < r.length → gL M' 71 j = lf r j) → Q M') : sp_X5_take 69 M Q := by
  unfold sp_X5_take
  exact ⟨iO_c hk (by decide) rfl, r.length + 1, d_take_2 (Q := Q) (K := fun M => Q M) hl r.length 0 (by omega) h1 hr fun M' g h _ => hQ M' g fun j hj => h j (Nat.zero_le _) hj⟩
theorem row_lf {M : Im} {b : Nat} {r : List Int} (h : ∀ i v, r[i]? = some v → gL M b i = v) : ∀ j, j < r.length → gL M b j = lf r j := fun j hj => by
  have e := List.getElem?_eq_getElem (l := r) hj
  rw [h _ _ e, lf_of e]
theorem okF_row {r : List Int} (hr : rising r) (hb : ∀ x, x ∈ r → inR x) : okF (lf r) r.length := okF_lf hr hb
theorem keep_MI {M M' : Im} {r : List Int} {E : Int} {l : List Pc} {Y : List (List Pc)} {mk_ an : Int} {w : List Int} {lk : Nat} (h : MI M r E l Y mk_ an w lk) (g : Ag (fun b => b = 69 ∨ b = 71) M M') (k : keep69 M M') : MI M' r E l Y mk_ an w lk :=
  h.keep (g.mono fun b hb => by unfold MS; omega) (fun j hj => k j (by omega))
/-- how many spans -/
def nsp (m : Int) : Nat → (Nat → Int) → Nat → Nat
  | 0, _, _ => 0
  | d + 1, f, n => if n = 0 then 0 else nsp m d (fun i => f (spanLen m f n + i)) (n - spanLen m f n) + 1
theorem c_few_14 {m : Int} {N : Nat} {Q K : Int → Im → Prop} (hm : 0 ≤ m ∧ m ≤ 40) (hN : N ≤ 300) :
    ∀ (d n st c : Nat) {M : Im} {f : Nat → Int}, n ≤ d → c ≤ st → st + n = N → K0 ≤ gz M → gI M 0 1 = N → (∀ i, i < n → gL M 1 (st + i) = f i) → okF f n → (∀ M', Ag (· = 17) M M' → K ((c + nsp m d f n : Nat) : Int) M') → sp_X4_few_14 (d + 1) 0 m c st M Q K
  | 0, n, st, c, M, f, hd, hc, hs, hk, h1, hfi, hf, hQ => by
    unfold sp_X4_few_14
    rw [h1]
    exact ⟨fun _ => hQ M Ag.refl, fun h => by omega⟩
  | d + 1, n, st, c, M, f, hd, hc, hs, hk, h1, hfi, hf, hQ => by
    have w1 : alen 1 = 300 := rfl
    unfold sp_X4_few_14
    rw [h1]
    unfold nsp at hQ
    refine ⟨fun h => ?_, fun h => ⟨fun h => by omega, fun _ => ?_⟩⟩
    · rw [if_pos (by omega)] at hQ; exact hQ M Ag.refl
    · rw [if_neg (by omega)] at hQ
      have hsp := spanLen_pos (m := m) (f := f) (n := n) (by omega)
      rw [show ((N : Nat) : Int) = ((st : Nat) : Int) + ((n : Nat) : Int) by omega]
      refine c_endOfSpan hk (iA_c hk (by decide) ⟨_, rfl⟩) (by omega) (by omega) (by omega) (by omega) hm hf (by decide) hfi fun M1 g1 _ => ?_
      generalize spanLen m f n = s at *
      refine ⟨by omega, ?_⟩
      rintro i3 rfl
      rw [show (c : Int) + 1 = ((c + 1 : Nat) : Int) by omega, show (st : Int) + (s : Nat) = ((st + s : Nat) : Int) by omega]
      refine c_few_14 hm hN d (n - s) (st + s) (c + 1) (f := fun i => f (s + i)) (by omega) (by omega) (by omega) (g1.k0 hk) (by rw [g1.I (by omega)]; exact h1) (fun i hi => by rw [g1.L (by omega), Nat.add_assoc]; exact hfi (s + i) (by omega)) hf.shift fun M' g' => ?_
      rw [show c + 1 + nsp m d (fun i => f (s + i)) (n - s) = c + (nsp m d (fun i => f (s + i)) (n - s) + 1) by omega]
      exact hQ M' (g1.trans g')
theorem d_few_21 {m : Int} {N : Nat} {Q K : Int → Im → Prop} (hm : 0 ≤ m ∧ m ≤ 40) (hN : N ≤ 300) :
    ∀ (d n st c : Nat) {M : Im} {f : Nat → Int}, n ≤ d → c ≤ st → st + n = N → K0 ≤ gz M → gI M 69 1 = N → (∀ i, i < n → gL M 71 (st + i) = f i) → okF f n → (∀ M', Ag (· = 69) M M' → keep69 M M' → K ((c + nsp m d f n : Nat) : Int) M') → sp_X5_few_21 (d + 1) 69 m c st M Q K
  | 0, n, st, c, M, f, hd, hc, hs, hk, h1, hfi, hf, hQ => by
    unfold sp_X5_few_21
    rw [h1]
    exact ⟨fun _ => hQ M Ag.refl keep69.refl, fun h => by omega⟩
  | d + 1, n, st, c, M, f, hd, hc, hs, hk, h1, hfi, hf, hQ => by
    unfold sp_X5_few_21
    rw [h1]
    unfold nsp at hQ
    refine ⟨fun h => ?_, fun h => ⟨by omega, ?_⟩⟩
    · rw [if_pos (by omega)] at hQ; exact hQ M Ag.refl keep69.refl
    · rw [if_neg (by omega)] at hQ
      rintro i1 rfl
      have hsp := spanLen_pos (m := m) (f := f) (n := n) (by omega)
      rw [show ((N : Nat) : Int) = ((st : Nat) : Int) + ((n : Nat) : Int) by omega]
      refine d_spanEnd hk (by omega) (by omega) (by omega) hm hf hfi fun M1 g1 k1 => ?_
      generalize spanLen m f n = s at *
      rw [show (c : Int) + 1 = ((c + 1 : Nat) : Int) by omega, show (st : Int) + (s : Nat) = ((st + s : Nat) : Int) by omega]
      refine d_few_21 hm hN d (n - s) (st + s) (c + 1) (f := fun i => f (s + i)) (by omega) (by omega) (by omega) (g1.k0 hk) (by rw [k1 1 (by omega)]; exact h1) (fun i hi => by rw [g1.L (by omega), Nat.add_assoc]; exact hfi (s + i) (by omega)) hf.shift fun M' g' k' => ?_
      rw [show c + 1 + nsp m d (fun i => f (s + i)) (n - s) = c + (nsp m d (fun i => f (s + i)) (n - s) + 1) by omega]
      exact hQ M' (g1.trans g') (k1.trans k')
theorem st_few {n : Nat} {M : Im} (h : Good n M) (hn : n < 512) (m : Int) : sp_X4_few 0 m M (fun z M1 => sp_X5_few 69 m M1 (Fin_ n z)) := by
  obtain ⟨r, E, l, Y, mk_, an, w, lk, hc, hm, hw⟩ := h
  have G := Good.same hc hm hw hn
  obtain ⟨hk, -, -, -, ⟨c1, c2, -⟩, cr, -⟩ := id hc
  obtain ⟨w0, ⟨wl, wr, wi⟩, -⟩ := id hw
  have hf := okF_row wr wi
  unfold sp_X4_few
  refine ⟨iO_c hk (by decide) rfl, c_isMargin (fun he => ⟨fun _ => ⟨r.length + 1, ?_⟩, fun h => (by omega)⟩) (fun he => ⟨fun h => absurd rfl h, fun _ => ?_⟩)⟩
  · refine c_few_14 (Q := fun z M1 => sp_X5_few 69 m M1 (Fin_ n z)) (K := fun z M1 => sp_X5_few 69 m M1 (Fin_ n z)) (f := lf r) he wl r.length r.length 0 0 (Nat.le_refl _) (Nat.le_refl _) (by omega) hk c1 (fun i hi => by rw [Nat.zero_add]; exact row_lf cr i hi) hf fun M1 g1 => ?_
    have hc1 := hc.ag g1 (fun b hb => by omega)
    have hm1 := hm.ag g1 (fun b hb => by omega)
    have k1 := g1.k0 hk
    unfold sp_X5_few
    refine ⟨iO_c k1 (by decide) rfl, fun h => by omega, fun _ => ⟨fun _ => ?_, fun h => by omega⟩⟩
    refine d_take k1 wl hm1.1.1 hm1.2.1 fun M2 g2 p2 => ⟨r.length + 1, ?_⟩
    refine d_few_21 (Q := Fin_ n ((0 + nsp m r.length (lf r) r.length : Nat) : Int)) (K := fun z M => Fin_ n ((0 + nsp m r.length (lf r) r.length : Nat) : Int) z M) (f := lf r) he wl r.length r.length 0 0 (Nat.le_refl _) (Nat.le_refl _) (by omega) (g2.k0 k1) (by rw [g2.I (by omega)]; exact hm1.1.1) (fun i hi => by rw [Nat.zero_add]; exact p2 i hi) hf fun M3 g3 k3 => ?_
    have G3 : Ag (fun b => b = 69 ∨ b = 71) M1 M3 := (g2.mono fun b hb => Or.inr hb).trans (g3.mono fun b hb => Or.inl hb)
    exact ⟨rfl, Good.same (hc1.ag G3 (fun b hb => by omega)) (keep_MI hm1 G3 (fun k hk' => by rw [k3 k hk', g2.I (by omega)])) hw hn⟩
  · unfold sp_X5_few
    exact ⟨iO_c hk (by decide) rfl, fun _ => ⟨rfl, G⟩, fun h => ⟨fun h' => by omega, fun _ => ⟨rfl, G⟩⟩⟩
/-! three keys -/
theorem d_three {M : Im} {r : List Int} {i j l : Nat} {m : Int} {Q : Int → Im → Prop} (hk : K0 ≤ gz M) (hl3 : r.length ≤ 300) (h1 : gI M 69 1 = r.length) (hr : ∀ i v, r[i]? = some v → gL M 70 i = v) (hij : i < j) (hjl : j < l) (hl : l < r.length) (hm : 0 ≤ m ∧ m ≤ 40) (hf : okF (lf r) r.length)
    (q1 : fitS (three m (lf r) i j l) → ∀ M', Ag (fun b => b = 69 ∨ b = 71) M M' → keep69 M M' → Q 1 M') (q0 : ¬ fitS (three m (lf r) i j l) → ∀ M', Ag (fun b => b = 69 ∨ b = 71) M M' → keep69 M M' → Q 0 M') : sp_X5_three 69 i j l m M Q := by
  have z : ∀ k : Nat, (k : Int) = ((0 : Nat) : Int) + (k : Int) := fun k => by omega
  have hb1 : StB (pr m (lf r) i j s0) := StB_pr StB_s0 hf hij (by omega) (by omega) hm
  have hb2 := StB_pr hb1 hf (show i < l by omega) hl (by omega) hm
  have hb3 := StB_pr hb2 hf hjl hl (by omega) hm
  unfold sp_X5_three
  refine ⟨iO_c hk (by decide) rfl, d_take hk hl3 h1 hr fun M1 g1 p1 => ?_⟩
  rintro M2 rfl M3 rfl
  have g3 : Ag (· = 69) M1 (pL (pL M1 69 5 0) 69 7 0) := ((Ag.refl (S := (· = 69))).pL rfl).pL rfl
  have k3 : keep69 M1 (pL (pL M1 69 5 0) 69 7 0) := fun k hk => rfl
  have m3 : ModIs ((0 : Nat) : Int) (pL (pL M1 69 5 0) 69 7 0) s0 := Or.inl ⟨by simp [gI_pI, gI_pL, gI_pD, gI_pR, gI_pnw, gI_pcp, gL_pI, gL_pL, gL_pD, gL_pR, gL_pnw, gL_pcp, gD_pI, gD_pL, gD_pD, gD_pR, gD_pnw, gD_pcp, gR_pI, gR_pL, gR_pD, gR_pR, gR_pnw, gR_pcp, gz_pI, gz_pL, gz_pD, gz_pR, gz_pnw, gz_pcp], by simp [gI_pI, gI_pL, gI_pD, gI_pR, gI_pnw, gI_pcp, gL_pI, gL_pL, gL_pD, gL_pR, gL_pnw, gL_pcp, gD_pI, gD_pL, gD_pD, gD_pR, gD_pnw, gD_pcp, gR_pI, gR_pL, gR_pD, gR_pR, gR_pnw, gR_pcp, gz_pI, gz_pL, gz_pD, gz_pR, gz_pnw, gz_pcp], rfl⟩
  generalize pL (pL M1 69 5 0) 69 7 0 = M3 at g3 k3 m3
  have G3 : Ag (fun b => b = 69 ∨ b = 71) M M3 := (g1.mono fun b hb => Or.inr hb).trans (g3.mono fun b hb => Or.inl hb)
  have K3 : keep69 M M3 := fun k hk' => by rw [k3 k hk', g1.I (by omega)]
  have p3 : ∀ k, k < r.length → gL M3 71 (0 + k) = lf r k := fun k hk' => by rw [Nat.zero_add, g3.L (by omega)]; exact p1 k hk'
  rw [z i, z j, z l]
  refine d_pair (n := r.length) (G3.k0 hk) hij (by omega) (by omega) (by omega) hm hf p3 m3 StB_s0 fun M4 g4 m4 k4 => ?_
  refine d_pair (n := r.length) (g4.k0 (G3.k0 hk)) (show i < l by omega) hl (by omega) (by omega) hm hf (fun k hk' => by rw [g4.L (by omega)]; exact p3 k hk') m4 hb1 fun M5 g5 m5 k5 => ?_
  refine d_pair (n := r.length) (g5.k0 (g4.k0 (G3.k0 hk))) hjl hl (by omega) (by omega) hm hf (fun k hk' => by rw [g5.L (by omega), g4.L (by omega)]; exact p3 k hk') m5 hb2 fun M6 g6 m6 k6 => ?_
  have G6 : Ag (fun b => b = 69 ∨ b = 71) M M6 := G3.trans (((g4.trans g5).trans g6).mono fun b hb => Or.inl hb)
  have K6 : keep69 M M6 := K3.trans (fun k hk' => by rw [k6 k hk', k5 k hk', k4 k hk'])
  exact d_fits (G6.k0 hk) m6 hb3 (fun hfit => ⟨Or.inr rfl, q1 hfit M6 G6 K6⟩) (fun hfit => ⟨Or.inl rfl, q0 hfit M6 G6 K6⟩)
theorem st_passes {n : Nat} {M : Im} (h : Good n M) (hn : n < 512) (i j l m : Int) : sp_X4_passes 0 i j l m M (fun z M1 => sp_X5_passes 69 i j l m M1 (Fin_ n z)) := by
  obtain ⟨r, E, ll, Y, mk_, an, w, lk, hc, hm, hw⟩ := h
  have G := Good.same hc hm hw hn
  obtain ⟨hk, -, -, -, ⟨c1, c2, -⟩, cr, -⟩ := id hc
  obtain ⟨⟨m1, m2, -⟩, mr, -⟩ := id hm
  obtain ⟨w0, ⟨wl, wr, wi⟩, -⟩ := id hw
  have hf := okF_row wr wi
  have bad : ¬ (0 ≤ m ∧ m ≤ 40 ∧ 0 ≤ i ∧ i < j ∧ j < l ∧ l < (r.length : Int)) → sp_X5_passes 69 i j l m M (Fin_ n (-2)) := fun hb => by
    unfold sp_X5_passes
    rw [m1]
    exact ⟨iO_c hk (by decide) rfl, fun _ => ⟨rfl, G⟩, fun _ => ⟨fun _ => ⟨rfl, G⟩, fun _ => ⟨fun _ => ⟨rfl, G⟩, fun _ => ⟨fun _ => ⟨rfl, G⟩, fun _ => ⟨fun _ => ⟨rfl, G⟩, fun _ => ⟨fun h => absurd ⟨by omega, by omega, by omega, by omega, by omega, h⟩ hb, fun _ => ⟨rfl, G⟩⟩⟩⟩⟩⟩⟩
  unfold sp_X4_passes
  refine ⟨iO_c hk (by decide) rfl, c_isMargin (fun he => ⟨fun h => (by omega), fun _ => ⟨fun h => bad (by omega), fun hi => ⟨fun h => bad (by omega), fun hij => ⟨fun h => bad (by omega), fun hjl => ?_⟩⟩⟩⟩) (fun he => ⟨fun _ => bad (by omega), fun h => absurd rfl h⟩)⟩
  rw [c1]
  refine ⟨fun hl => ?_, fun h => bad (by omega)⟩
  have mod : ∀ (u : Int) (M1 : Im), Ag (· = 17) M M1 → (u = if fitS (three m (lf r) i.toNat j.toNat l.toNat) then 1 else 0) → sp_X5_passes 69 i j l m M1 (Fin_ n u) := by
    intro u M1 g1 hu
    have hc1 := hc.ag g1 (fun b hb => by omega)
    have hm1 := hm.ag g1 (fun b hb => by omega)
    have k1 := g1.k0 hk
    have fin : ∀ M', Ag (fun b => b = 69 ∨ b = 71) M1 M' → keep69 M1 M' → Good (n + 1) M' := fun M' g k => Good.same (hc1.ag g (fun b hb => by omega)) (keep_MI hm1 g k) hw hn
    unfold sp_X5_passes
    rw [hm1.1.1]
    refine ⟨iO_c k1 (by decide) rfl, fun h => by omega, fun _ => ⟨fun h => by omega, fun _ => ⟨fun h => by omega, fun _ => ⟨fun h => by omega, fun _ => ⟨fun h => by omega, fun _ => ⟨fun _ => ?_, fun h => by omega⟩⟩⟩⟩⟩⟩
    have key := d_three (i := i.toNat) (j := j.toNat) (l := l.toNat) (m := m) (Q := fun (i2 : Int) (M1 : Im) => (i2 = 0 → Fin_ n u 0 M1) ∧ (¬ i2 = 0 → Fin_ n u 1 M1)) k1 wl hm1.1.1 hm1.2.1 (by omega) (by omega) (by omega) he hf (fun hfit M' g k => ⟨fun h => by omega, fun _ => ⟨by rw [hu, if_pos hfit], fin M' g k⟩⟩) (fun hfit M' g k => ⟨fun _ => ⟨by rw [hu, if_neg hfit], fin M' g k⟩, fun h => absurd rfl h⟩)
    rw [show ((i.toNat : Nat) : Int) = i by omega, show ((j.toNat : Nat) : Int) = j by omega, show ((l.toNat : Nat) : Int) = l by omega] at key
    exact key
  have key := c_passThree (a := 1) (i := i.toNat) (j := j.toNat) (l := l.toNat) (n := r.length) (m := m) (f := lf r) (Q := fun (i4 : Int) (M3 : Im) => (i4 = 0 → sp_X5_passes 69 i j l m M3 (Fin_ n 0)) ∧ (¬ i4 = 0 → sp_X5_passes 69 i j l m M3 (Fin_ n 1))) hk (iA_c hk (by decide) ⟨_, rfl⟩) (by omega) (by omega) (by omega) (by omega) wl (by decide) he hf (by decide) (row_lf cr) (fun hfit M' g => ⟨fun h => by omega, fun _ => mod 1 M' g (by rw [if_pos hfit])⟩) (fun hfit M' g => ⟨fun _ => mod 0 M' g (by rw [if_neg hfit]), fun h => absurd rfl h⟩)
  rw [show ((i.toNat : Nat) : Int) = i by omega, show ((j.toNat : Nat) : Int) = j by omega, show ((l.toNat : Nat) : Int) = l by omega] at key
  exact key
