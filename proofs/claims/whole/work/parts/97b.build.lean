/-! ===== build, again, merge ===== -/
def newP (kind E : Int) (l : List Pc) (fr to : Nat) : List Pc := mkk kind E (lf (GT ((l.take to).drop fr))) (GT ((l.take to).drop fr)).length
def repl (kind E : Int) (l : List Pc) (fr to : Nat) : List Pc := l.take fr ++ newP kind E l fr to ++ l.drop to
theorem sums3 {l : List Pc} {fr to : Nat} (hft : fr ≤ to) : ksum (l.take fr) + ksum ((l.take to).drop fr) + ksum (l.drop to) = ksum l ∧ tsum (l.take fr) + tsum ((l.take to).drop fr) + tsum (l.drop to) = tsum l := by
  have e : (l.take to).take fr = l.take fr := by rw [List.take_take, Nat.min_eq_left hft]
  have a1 := ksum_app ((l.take to).take fr) ((l.take to).drop fr)
  have a2 := ksum_app (l.take to) (l.drop to)
  have b1 := tsum_app ((l.take to).take fr) ((l.take to).drop fr)
  have b2 := tsum_app (l.take to) (l.drop to)
  rw [List.take_append_drop] at a1 a2 b1 b2
  rw [e] at a1 b1
  omega
/-- what is asked of a list of pieces, that some may be replaced -/
def RepOk (l : List Pc) (fr to : Nat) : Prop := WL l ∧ fr ≤ to ∧ to ≤ l.length ∧ 1 ≤ to ∧ (GT l).length ≤ 300 ∧ ksum l + tsum l ≤ 557 ∧ tsum l ≤ 300
theorem RepOk.L {l : List Pc} {fr to : Nat} (h : RepOk l fr to) : (GT ((l.take to).drop fr)).length ≤ 300 ∧ rising (GT ((l.take to).drop fr)) ∧ (∀ x, x ∈ GT ((l.take to).drop fr) → inR x) ∧ mgl ((l.take to).drop fr) = GT ((l.take to).drop fr) ∧ okF (lf (GT ((l.take to).drop fr))) (GT ((l.take to).drop fr)).length := by
  obtain ⟨h1, h2, h3, h4, h5, h6, h7⟩ := h
  have sub : ((l.take to).drop fr).Pairwise ordR := (h1.2.1.sublist (List.take_sublist to l)).sublist (List.drop_sublist fr _)
  have mem : ∀ q, q ∈ (l.take to).drop fr → q ∈ l := fun q hq => List.mem_of_mem_take (List.mem_of_mem_drop hq)
  have hr := GT_rising (fun q hq => h1.1 q (mem q hq)) sub
  have hb := GT_inR (l := (l.take to).drop fr) (fun q hq => h1.1 q (mem q hq))
  have e : GT l = GT (l.take fr) ++ GT ((l.take to).drop fr) ++ GT (l.drop to) := by
    have e1 : (l.take to).take fr = l.take fr := by rw [List.take_take, Nat.min_eq_left h2]
    rw [← e1, ← GT_app, List.take_append_drop, ← GT_app, List.take_append_drop]
  have el := congrArg List.length e
  rw [List.length_append, List.length_append] at el
  exact ⟨by omega, hr, hb, mgl_GT sub, okF_lf hr hb⟩
theorem RepOk.out {l : List Pc} {fr to : Nat} {kind E : Int} (h : RepOk l fr to) (hE : 0 ≤ E ∧ E ≤ 40) (hk : kind = 2 → 1 ≤ E) : WL (repl kind E l fr to) ∧ GT (repl kind E l fr to) = GT l ∧ ksum (repl kind E l fr to) + tsum (repl kind E l fr to) ≤ ksum l + tsum l ∧ (newP kind E l fr to).length ≤ 300 := by
  obtain ⟨l1, l2, l3, l4, l5⟩ := h.L
  obtain ⟨h1, h2, h3, h4, h5, h6, h7⟩ := h
  obtain ⟨a, b⟩ := WL_replace (kind := kind) h1 hE hk h2 h3 h4 (by omega)
  obtain ⟨s1, s2, s3⟩ := mkk_sums kind E (lf (GT ((l.take to).drop fr))) (GT ((l.take to).drop fr)).length
  obtain ⟨t1, t2⟩ := sums3 (l := l) h2
  have gl := GT_le ((l.take to).drop fr)
  refine ⟨a, b, ?_, ?_⟩
  · unfold repl newP
    rw [ksum_app, ksum_app, tsum_app, tsum_app]; omega
  · unfold newP; omega
theorem c_rep {M : Im} {r : List Int} {E : Int} {l : List Pc} {Y : List (List Pc)} {mk_ an : Int} {w : List Int} {lk fr to : Nat} {kind : Int} {Q : Int → Im → Prop} (hc : CI M r E l Y mk_ an w lk) (hE : 0 ≤ E ∧ E ≤ 40) (hki : kind = 2 → 1 ≤ E) (hmk : 0 ≤ mk_ ∧ mk_ ≤ 1000000) (hR : RepOk l fr to) (hr : ∀ j x, (GT ((l.take to).drop fr))[j]? = some x → gL M 18 j = x)
    (hQ : ∀ M', AgL IX M M' → CI M' r E (repl kind E l fr to) (lys E 10 (repl kind E l fr to)) (mk_ + (newP kind E l fr to).length) an w lk → Q (newP kind E l fr to).length M') : sp_X4_replace 0 fr to (GT ((l.take to).drop fr)).length kind M Q := by
  obtain ⟨l1, l2, l3, l4, l5⟩ := hR.L
  obtain ⟨o1, o2, o3, o4⟩ := hR.out (kind := kind) hE hki
  obtain ⟨h1, h2, h3, h4, h5, h6, h7⟩ := hR
  obtain ⟨hk, hP, ⟨t, t', hC, hT⟩, hL, ⟨c1, c2, c7, c8, c9⟩, -⟩ := id hc
  obtain ⟨t1, t2⟩ := sums3 (l := l) h2
  have gl := GT_le ((l.take to).drop fr)
  refine c_replace (f := lf (GT ((l.take to).drop fr))) hC hk hP hT c2 hE hki c8 (by omega) h2 h3 (by omega) (by omega) (fun q hq => (h1.1 q hq).1) (fun i hi => row_lf (b := 18) hr i hi) l5 (by omega) (by omega) (okF_fk o1) fun M' g1 g2 g3 g4 g5 g6 g7 => ?_
  refine hQ M' g1 (hc.anew g1 g5 g4 g6 g7 ⟨g2 1 (by omega) (by omega), g2 2 (by omega) (by omega)⟩ ?_ g3 (by rw [g2 9 (by omega) (by omega)]; exact c9))
  rw [g2 7 (by omega) (by omega), c7]
  show ((GT l).length : Int) = ((GT (repl kind E l fr to)).length : Nat)
  rw [o2]
theorem d_rep {M : Im} {r : List Int} {E : Int} {l : List Pc} {Y : List (List Pc)} {mk_ an : Int} {w : List Int} {lk fr to : Nat} {kind : Int} {Q : Im → Prop} (hk : K0 ≤ gz M) (hm : MI M r E l Y mk_ an w lk) (hE : 0 ≤ E ∧ E ≤ 40) (hki : kind = 1 ∨ (kind = 2 ∧ 1 ≤ E)) (hmk : 0 ≤ mk_ ∧ mk_ ≤ 1000000) (hR : RepOk l fr to) (h16 : ∀ q, q ∈ l → (plt q).length ≤ 16) (h26 : gI M 69 26 = ((GT ((l.take to).drop fr)).length : Nat)) (hr : ∀ j x, (GT ((l.take to).drop fr))[j]? = some x → gL M 71 j = x)
    (hQ : ∀ M', Ag AgR M M' → MI M' r E (repl kind E l fr to) (lys E 10 (repl kind E l fr to)) (mk_ + (newP kind E l fr to).length) an w lk → Q M') : sp_X5_replace 69 fr to kind M Q := by
  obtain ⟨l1, l2, l3, l4, l5⟩ := hR.L
  obtain ⟨o1, o2, o3, o4⟩ := hR.out (kind := kind) hE (fun h => by rcases hki with w | w <;> omega)
  obtain ⟨h1, h2, h3, h4, h5, h6, h7⟩ := hR
  obtain ⟨t1, t2⟩ := sums3 (l := l) h2
  have gl := GT_le ((l.take to).drop fr)
  refine d_replace (f := lf (GT ((l.take to).drop fr))) hk hm.2.2.1 (flat_pre l Y) hm.1.2.1 hE hki hm.1.2.2.2.2.1 (by omega) h26 (lv73 hm.2.2.2.1).2 h2 h3 (by omega) (fun q hq => ⟨(h1.1 q hq).1, h16 q hq⟩) (fun i hi => row_lf (b := 71) hr i hi) l5 (by omega) (okF_fk o1) fun M' g1 g2 g3 g4 g5 g6 g7 => ?_
  exact hQ M' g1 (hm.anew (g1.mono fun b hb => Or.inl hb) (fun j hj => g2 j (by omega) (by omega) (by omega) (by omega)) g7 g4 g3 (by rw [g2 25 (by omega) (by omega) (by omega) (by omega)]; exact hm.1.2.2.2.2.2.1) g5 g6)
theorem WF.rep {n : Nat} {r : List Int} {E : Int} {l l0 : List Pc} {Y : List (List Pc)} {mk_ an an' : Int} {w : List Int} {lk fr to : Nat} {kind : Int} (h : WF n r E l0 Y mk_ an w lk) (hn : n < 512) (hki : kind = 2 → 1 ≤ E) (hR : RepOk l fr to) (h15 : ∀ q, (q ∈ l.take fr ∨ q ∈ l.drop to) → (plt q).length ≤ 15) (hs : 2 * (ksum l + tsum l) ≤ 300 + (n + 1) + (GT l).length) (ha : 0 ≤ an' ∧ an' ≤ an + 1) : WF (n + 1) r E (repl kind E l fr to) (lys E 10 (repl kind E l fr to)) (mk_ + (newP kind E l fr to).length) an' w lk := by
  obtain ⟨v0, v1, v2, v3, v4, v5, v6, v7, v8, v9, v10⟩ := h
  obtain ⟨o1, o2, o3, o4⟩ := hR.out (kind := kind) v2 hki
  obtain ⟨l1, l2, l3, l4, l5⟩ := hR.L
  obtain ⟨g1, -⟩ := mkk_good (kind := kind) v2 hki l5 (by omega)
  refine ⟨by omega, v1, v2, o1, fun q hq => ?_, by rw [o2]; exact hR.2.2.2.2.1, by rw [o2]; omega, ⟨E, v2, rfl⟩, by omega, by omega, v10⟩
  rcases List.mem_append.mp hq with hq | hq
  · rcases List.mem_append.mp hq with hq | hq
    · exact h15 q (Or.inl hq)
    · rw [(g1 q hq).2.1]; simp
  · exact h15 q (Or.inr hq)
def bk (kind E : Int) : Prop := kind = 1 ∨ (kind = 2 ∧ 1 ≤ E)
theorem c_isKind {M : Im} {kind E : Int} {Q : Int → Im → Prop} (hk : K0 ≤ gz M) (h2 : gI M 0 2 = E) (h1 : bk kind E → Q 1 M) (h0 : ¬ bk kind E → Q 0 M) : sp_X4_isKindToMake 0 kind M Q := by
  unfold bk at h1 h0
  unfold sp_X4_isKindToMake
  rw [h2]
  exact ⟨iO_c hk (by decide) rfl, fun h => ⟨Or.inr rfl, h1 (Or.inl h)⟩, fun h => ⟨fun h' => ⟨Or.inl rfl, h0 (by omega)⟩, fun h' => ⟨fun h'' => ⟨Or.inl rfl, h0 (by omega)⟩, fun h'' => ⟨Or.inr rfl, h1 (by omega)⟩⟩⟩⟩
theorem d_isBuilt {M : Im} {kind E : Int} {Q : Int → Im → Prop} (hk : K0 ≤ gz M) (h2 : gI M 69 2 = E) (h1 : bk kind E → Q 1 M) (h0 : ¬ bk kind E → Q 0 M) : sp_X5_isBuilt 69 kind M Q := by
  unfold bk at h1 h0
  unfold sp_X5_isBuilt
  rw [h2]
  exact ⟨iO_c hk (by decide) rfl, fun h => ⟨Or.inr rfl, h1 (Or.inl h)⟩, fun h => ⟨fun h' => ⟨Or.inl rfl, h0 (by omega)⟩, fun h' => ⟨fun h'' => ⟨Or.inl rfl, h0 (by omega)⟩, fun h'' => ⟨Or.inr rfl, h1 (by omega)⟩⟩⟩⟩
/-- the model makes its index of points alone -/
theorem d_new {M : Im} {r : List Int} {E : Int} {l : List Pc} {Y : List (List Pc)} {mk_ an : Int} {w : List Int} {lk : Nat} {kind : Int} {L : List Int} {Q : Im → Prop} (hk : K0 ≤ gz M) (hm : MI M r E l Y mk_ an w lk) (hE : 0 ≤ E ∧ E ≤ 40) (hki : bk kind E) (hmk : 0 ≤ mk_ ∧ mk_ ≤ 1000000) (hr : rising L) (hb : ∀ x, x ∈ L → inR x) (hl : L.length ≤ 300) (h26 : gI M 69 26 = L.length) (hp : ∀ j x, L[j]? = some x → gL M 71 j = x)
    (hQ : ∀ M', Ag AgR M M' → MI M' r E (mkk kind E (lf L) L.length) (lys E 10 (mkk kind E (lf L) L.length)) (mk_ + (mkk kind E (lf L) L.length).length) an w lk → Q M') : sp_X5_replace 69 0 0 kind (pI M 73 0 0) Q := by
  have g : Ag (· = 73) M (pI M 73 0 0) := (Ag.refl (S := (· = 73))).pI rfl
  have wl := WL_made (kind := kind) hE (fun h => by unfold bk at hki; omega) hr hb (by omega)
  have key := d_replace (M := pI M 73 0 0) (fr := 0) (to := 0) (n := L.length) (kind := kind) (made := mk_) (E := E) (f := lf L) (l := []) (A := []) (Q := Q) (g.k0 hk) (fun p q hq => by simp at hq) (List.nil_prefix) (by rw [g.I (by omega)]; exact hm.1.2.1) hE hki (by rw [g.I (by omega)]; exact hm.1.2.2.2.2.1) (by omega) (by rw [g.I (by omega)]; exact h26) (by simp [gI_pI, gI_pL, gI_pD, gI_pR, gI_pnw, gI_pcp, gL_pI, gL_pL, gL_pD, gL_pR, gL_pnw, gL_pcp, gD_pI, gD_pL, gD_pD, gD_pR, gD_pnw, gD_pcp, gR_pI, gR_pL, gR_pD, gR_pR, gR_pnw, gR_pcp, gz_pI, gz_pL, gz_pD, gz_pR, gz_pnw, gz_pcp]) (Nat.le_refl _) (by simp) (by simp [ksum_nil]) (fun q hq => by simp at hq) (fun i hi => by rw [g.L (by omega)]; exact row_lf (b := 71) hp i hi) (okF_lf hr hb) (by simp [ksum_nil]; omega) (by simpa using okF_fk wl) (fun M' g1 g2 g3 g4 g5 g6 g7 => ?_)
  · exact key
  · simp only [List.take_nil, List.drop_nil, List.nil_append, List.append_nil] at g4 g5 g6 g7
    have G : Ag AgR M M' := (g.mono fun b hb => Or.inr (by omega)).trans g1
    exact hQ M' G (hm.anew (G.mono fun b hb => Or.inl hb) (fun j hj => by rw [g2 j (by omega) (by omega) (by omega) (by omega), g.I (by omega)]) g7 g4 g3 (by rw [g2 25 (by omega) (by omega) (by omega) (by omega), g.I (by omega)]; exact hm.1.2.2.2.2.2.1) g5 g6)
theorem WF.new {n : Nat} {r : List Int} {E : Int} {l : List Pc} {Y : List (List Pc)} {mk_ an : Int} {w : List Int} {lk : Nat} {kind : Int} {L : List Int} (h : WF n r E l Y mk_ an w lk) (hn : n < 512) (hki : bk kind E) (hr : rising L) (hb : ∀ x, x ∈ L → inR x) (hl : L.length ≤ 300) : WF (n + 1) r E (mkk kind E (lf L) L.length) (lys E 10 (mkk kind E (lf L) L.length)) (mk_ + (mkk kind E (lf L) L.length).length) an w lk := by
  obtain ⟨v0, v1, v2, v3, v4, v5, v6, v7, v8, v9, v10⟩ := h
  have hki2 : kind = 2 → 1 ≤ E := fun h => by unfold bk at hki; omega
  have wl := WL_made (kind := kind) v2 hki2 hr hb (by omega)
  obtain ⟨g1, -⟩ := mkk_good (kind := kind) v2 hki2 (okF_lf hr hb) (by omega)
  obtain ⟨s1, s2, s3⟩ := mkk_sums kind E (lf L) L.length
  exact ⟨by omega, v1, v2, wl, fun q hq => by rw [(g1 q hq).2.1]; simp, by rw [GT_mkk, map_lf]; exact hl, by rw [GT_mkk, map_lf]; omega, ⟨E, v2, rfl⟩, by omega, by omega, v10⟩
theorem CI.new {M M' : Im} {r : List Int} {E : Int} {l : List Pc} {Y : List (List Pc)} {mk_ an : Int} {w : List Int} {lk t t' : Nat} {kind : Int} {L : List Int} (h : CI M r E l Y mk_ an w lk) (g : AgL IX M M') (hI : ∀ j, j ≠ 6 → j ≠ 7 → j ≠ 8 → gI M' 0 j = gI M 0 j) (h7 : gI M' 0 7 = L.length) (h8 : gI M' 0 8 = mk_ + (mkk kind E (lf L) L.length).length) (hC : CT M' t t') (hP : Pool M') (hT : TR M' t (mkk kind E (lf L) L.length)) (hL : Lay M' (lys E 10 (mkk kind E (lf L) L.length))) : CI M' r E (mkk kind E (lf L) L.length) (lys E 10 (mkk kind E (lf L) L.length)) (mk_ + (mkk kind E (lf L) L.length).length) an w lk :=
  h.anew g hP hC hT hL ⟨hI 1 (by omega) (by omega) (by omega), hI 2 (by omega) (by omega) (by omega)⟩ (by rw [h7, GT_mkk, map_lf]) h8 (by rw [hI 9 (by omega) (by omega) (by omega)]; exact h.2.2.2.2.1.2.2.2.2)
theorem st_build {n : Nat} {M : Im} (h : Good n M) (hn : n < 512) (kind : Int) : sp_X4_build 0 kind M (fun z M1 => sp_X5_build 69 kind M1 (Fin_ n z)) := by
  have w1 : alen 1 = 300 := rfl
  have w18 : alen 18 = 600 := rfl
  have w73 : alen 73 = 20 := rfl
  obtain ⟨r, E, l, Y, mk_, an, w, lk, hc, hm, hw⟩ := h
  have G := Good.same hc hm hw hn
  obtain ⟨f1, f2, f3, f4, f5, f6, f7, f8, f9, f10⟩ := hw.facts
  obtain ⟨hk, hP, ⟨t, t', hC, hT⟩, hL, ⟨c1, c2, c7, c8, c9⟩, cr, -⟩ := id hc
  obtain ⟨w0, ⟨wl, wr, wi⟩, wE, -, -, -, -, -, wmk, -⟩ := id hw
  have bad : (¬ bk kind E ∨ r = []) → sp_X5_build 69 kind M (Fin_ n (-2)) := fun h => by
    unfold sp_X5_build
    refine ⟨iO_c hk (by decide) rfl, d_isBuilt hk hm.1.2.1 (fun hb => ⟨fun h' => (by omega), fun _ => ⟨fun h' => ?_, fun _ => ⟨rfl, G⟩⟩⟩) (fun _ => ⟨fun _ => ⟨rfl, G⟩, fun h' => absurd rfl h'⟩)⟩
    rcases h with h | h
    · exact absurd hb h
    · rw [hm.1.1, h] at h'; exact absurd rfl h'
  unfold sp_X4_build
  refine ⟨iO_c hk (by decide) rfl, c_isKind hk c2 (fun hb => ⟨fun h => (by omega), fun _ => ⟨fun h0 => ?_, fun h0 => bad (Or.inr ?_)⟩⟩) (fun hb => ⟨fun _ => bad (Or.inl hb), fun h => absurd rfl h⟩)⟩
  · rw [c1, w1, w18, show ((r.length : Nat) : Int).toNat = r.length by omega]
    refine ⟨by omega, by omega, by omega, by omega, by omega, ?_⟩
    rintro M3 rfl M4 rfl
    have e1 : gI (pcp M 1 0 18 0 r.length) 0 1 = r.length := c1
    rw [e1]
    have g4 : Ag (fun b => b = 0 ∨ b = 18) M (pI (pcp M 1 0 18 0 r.length) 0 7 (r.length : Nat)) := ((Ag.refl (S := fun b => b = 0 ∨ b = 18)).pcp (Or.inr rfl)).pI (Or.inl rfl)
    have a7 : gI (pI (pcp M 1 0 18 0 r.length) 0 7 (r.length : Nat)) 0 7 = (r.length : Nat) := by simp [gI_pI, gI_pL, gI_pD, gI_pR, gI_pnw, gI_pcp, gL_pI, gL_pL, gL_pD, gL_pR, gL_pnw, gL_pcp, gD_pI, gD_pL, gD_pD, gD_pR, gD_pnw, gD_pcp, gR_pI, gR_pL, gR_pD, gR_pR, gR_pnw, gR_pcp, gz_pI, gz_pL, gz_pD, gz_pR, gz_pnw, gz_pcp]
    have ao : ∀ j, j ≠ 7 → gI (pI (pcp M 1 0 18 0 r.length) 0 7 (r.length : Nat)) 0 j = gI M 0 j := fun j hj => by simp [gI_pI, gI_pL, gI_pD, gI_pR, gI_pnw, gI_pcp, gL_pI, gL_pL, gL_pD, gL_pR, gL_pnw, gL_pcp, gD_pI, gD_pL, gD_pD, gD_pR, gD_pnw, gD_pcp, gR_pI, gR_pL, gR_pD, gR_pR, gR_pnw, gR_pcp, gz_pI, gz_pL, gz_pD, gz_pR, gz_pnw, gz_pcp, hj]
    have aR : ∀ j, gR (pI (pcp M 1 0 18 0 r.length) 0 7 (r.length : Nat)) 0 j = gR M 0 j := fun j => rfl
    have aL : ∀ j, j < r.length → gL (pI (pcp M 1 0 18 0 r.length) 0 7 (r.length : Nat)) 18 j = lf r j := fun j hj => by
      simp only [gI_pI, gI_pL, gI_pD, gI_pR, gI_pnw, gI_pcp, gL_pI, gL_pL, gL_pD, gL_pR, gL_pnw, gL_pcp, gD_pI, gD_pL, gD_pD, gD_pR, gD_pnw, gD_pcp, gR_pI, gR_pL, gR_pD, gR_pR, gR_pnw, gR_pcp, gz_pI, gz_pL, gz_pD, gz_pR, gz_pnw, gz_pcp]
      rw [if_pos ⟨trivial, by omega, by omega⟩, show 0 + (j - 0) = j by omega]
      exact row_lf cr j hj
    generalize pI (pcp M 1 0 18 0 r.length) 0 7 (r.length : Nat) = M4 at g4 a7 ao aR aL
    obtain ⟨ht, ht', h12, -, -, hcap, -, h300, -⟩ := hC.TL
    have ft := TL_facts t ht
    obtain ⟨-, -, -, -, -, ft1, ft2, -, -, -, ft3, ft4, ft5⟩ := ft
    have C4 : CT M4 t t' := ⟨hC.1, by rw [aR]; exact hC.2.1, by rw [aR]; exact hC.2.2⟩
    have T4 : TR M4 t l := hT.ag g4 (fun b h1 h2 => by omega) (fun b hb => by omega)
    have P4 : Pool M4 := hP.ag g4 (fun v hv => by have := TL_facts v hv; obtain ⟨-, -, -, -, -, fv1, fv2, -, -, -, fv3, fv4, fv5⟩ := this; omega)
    have k4 := g4.k0 hk
    rintro r5 rfl
    refine ⟨t, C4.2.1, TL_O ht k4, ?_⟩
    rw [T4.2.2.1, ao 1 (by omega), c1]
    have hki2 : kind = 2 → 1 ≤ E := fun h => by unfold bk at hb; omega
    have wm := WL_made (kind := kind) wE hki2 wr wi (by omega)
    have e : l.take 0 ++ mkk kind E (lf r) r.length ++ l.drop l.length = mkk kind E (lf r) r.length := by simp
    have key := c_replace (M := M4) (fr := 0) (to := l.length) (n := r.length) (kind := kind) (made := mk_) (E := E) (f := lf r) (l := l) (Q := fun (i8 : Int) (M7 : Im) => sp_X5_build 69 kind M7 (Fin_ n i8)) C4 k4 P4 T4 (by rw [ao 2 (by omega)]; exact c2) wE hki2 (by rw [ao 8 (by omega)]; exact c8) (by omega) (Nat.zero_le _) (Nat.le_refl _) (by omega) (by omega) (fun q hq => (f5 q hq).1) aL (okF_row wr wi) (by simp [ksum_nil]; omega) (by simp [tsum_nil]) (by rw [e]; exact okF_fk wm) (fun M' g1 g2 g3 g4' g5 g6 g7 => ?_)
    · exact key
    · rw [e] at g6 g7
      have GX : AgL IX M M' := ((g4.mono fun b hb => by unfold IX; omega).toL).trans g1
      have hc' : CI M' r E (mkk kind E (lf r) r.length) (lys E 10 (mkk kind E (lf r) r.length)) (mk_ + (mkk kind E (lf r) r.length).length) an w lk := hc.new GX (fun j h6 h7 h8 => by rw [g2 j h6 h8, ao j h7]) (by rw [g2 7 (by omega) (by omega)]; exact a7) g3 g4' g5 g6 g7
      have hm' := IX_m GX hm
      have k' := GX.k0 hk
      unfold sp_X5_build
      refine ⟨iO_c k' (by decide) rfl, d_isBuilt k' hm'.1.2.1 (fun _ => ⟨fun h' => (by omega), fun _ => ⟨fun _ => ?_, fun h' => ?_⟩⟩) (fun h => absurd hb h)⟩
      · refine d_take k' wl hm'.1.1 hm'.2.1 fun M3 g3' p3 => ?_
        rintro M4' rfl
        refine ⟨by omega, ?_⟩
        rintro M5 rfl
        have e1' : gI M3 69 1 = r.length := by rw [g3'.I (by omega)]; exact hm'.1.1
        rw [e1']
        have gg : Ag MS M' (pI M3 69 26 (r.length : Nat)) := ((g3'.mono (S' := MS) fun b hb => Or.inr (Or.inl hb))).pI (Or.inl rfl)
        have m4 : MI (pI M3 69 26 (r.length : Nat)) r E l Y mk_ an w lk := hm'.keep gg (fun j hj => by simp only [gI_pI, gI_pL, gI_pD, gI_pR, gI_pnw, gI_pcp, gL_pI, gL_pL, gL_pD, gL_pR, gL_pnw, gL_pcp, gD_pI, gD_pL, gD_pD, gD_pR, gD_pnw, gD_pcp, gR_pI, gR_pL, gR_pD, gR_pR, gR_pnw, gR_pcp, gz_pI, gz_pL, gz_pD, gz_pR, gz_pnw, gz_pcp]; rw [if_neg (by omega), g3'.I (by omega)])
        refine d_new (L := r) (gg.k0 k') m4 wE hb (by omega) wr wi wl (by simp [gI_pI, gI_pL, gI_pD, gI_pR, gI_pnw, gI_pcp, gL_pI, gL_pL, gL_pD, gL_pR, gL_pnw, gL_pcp, gD_pI, gD_pL, gD_pD, gD_pR, gD_pnw, gD_pcp, gR_pI, gR_pL, gR_pD, gR_pR, gR_pnw, gR_pcp, gz_pI, gz_pL, gz_pD, gz_pR, gz_pnw, gz_pcp]) (fun j x hx => by have := lf_of hx; simp only [gI_pI, gI_pL, gI_pD, gI_pR, gI_pnw, gI_pcp, gL_pI, gL_pL, gL_pD, gL_pR, gL_pnw, gL_pcp, gD_pI, gD_pL, gD_pD, gD_pR, gD_pnw, gD_pcp, gR_pI, gR_pL, gR_pD, gR_pR, gR_pnw, gR_pcp, gz_pI, gz_pL, gz_pD, gz_pR, gz_pnw, gz_pcp]; rw [p3 j (List.getElem?_eq_some_iff.mp hx).1]; exact this) fun M6 g6' m6 => ?_
        unfold sp_X5_pieces
        refine ⟨iO_c (g6'.k0 (gg.k0 k')) (by decide) rfl, by omega, ?_⟩
        rw [(lv73 m6.2.2.2.1).2]
        have GG : Ag (fun b => 69 ≤ b ∧ b < 97) M' M6 := (gg.mono fun b hb => by unfold MS at hb; omega).trans (g6'.mono fun b hb => by unfold AgR at hb; omega)
        exact ⟨rfl, r, E, _, _, _, an, w, lk, hc'.ag GG (fun b hb => by omega), m6, hw.new hn hb wr wi wl⟩
      · rw [hm'.1.1] at h'; omega
  · rw [c1] at h0; exact List.eq_nil_of_length_eq_zero (by omega)
/-! again -/
theorem d_again_27 {l A : List Pc} {kind : Int} {Q : Int → Im → Prop} {K46 : Nat → Int → Im → Prop} (hpre : l <+: A) (hl : l.length ≤ 590) (hs : ksum l ≤ 590) (hg : (GT l).length ≤ 2000) (hok : ∀ q, q ∈ l → (plt q).length ≤ 16 ∧ dsj q) :
    ∀ (d p : Nat) {M : Im}, p + d = l.length → K0 ≤ gz M → MA M A → gI M 73 0 = l.length → gI M 69 26 = ((GT (l.take p)).length : Nat) → (∀ j x, (GT (l.take p))[j]? = some x → gL M 71 j = x) →
    (∀ M', Ag (fun b => b = 69 ∨ b = 71) M M' → (∀ k, k ≠ 26 → gI M' 69 k = gI M 69 k) → gI M' 69 26 = ((GT l).length : Nat) → (∀ j x, (GT l)[j]? = some x → gL M' 71 j = x) → K46 69 kind M') → sp_X5_again_27 (d + 1) 69 kind p M Q K46 := by
  have w73 : alen 73 = 20 := rfl
  intro d
  induction d with
  | zero =>
    intro p M h hk hA h73 h26 hr hQ
    rw [List.take_of_length_le (by omega)] at h26 hr
    unfold sp_X5_again_27 sp_X5_pieces
    refine ⟨iO_c hk (by decide) rfl, by omega, ?_⟩
    rw [h73]
    exact ⟨fun _ => hQ M Ag.refl (fun _ _ => rfl) h26 hr, fun h => by omega⟩
  | succ d ih =>
    intro p M h hk hA h73 h26 hr hQ
    have hq := pcAt_get (l := l) (p := p) (by omega)
    generalize pcAt l p = q at hq
    obtain ⟨o1, o2⟩ := hok q (List.mem_of_getElem? hq)
    obtain ⟨rest, rfl⟩ := id hpre
    have hqA : (l ++ rest)[p]? = some q := by rw [List.getElem?_append_left (by omega)]; exact hq
    have hP := hA _ _ hqA
    rw [List.take_append_of_le_length (by omega)] at hP
    have kin := ksum_in hq
    have gsu := GT_take_succ hq
    have gtl : (GT (l.take (p + 1))).length ≤ (GT l).length := by
      have e : GT l = GT (l.take (p + 1)) ++ GT (l.drop (p + 1)) := by rw [← GT_app, List.take_append_drop]
      rw [e, List.length_append]; omega
    unfold sp_X5_again_27 sp_X5_pieces
    refine ⟨iO_c hk (by decide) rfl, by omega, ?_⟩
    dsimp only
    rw [h73]
    refine ⟨fun h => by omega, fun _ => ?_⟩
    refine d_gather (fr := ksum (l.take p)) hk (by omega) (by omega) o1 o2 hP h26 (by omega) fun M3 g3 c3 l3 n3 r3 s3 => ⟨by omega, ?_⟩
    rintro i4 rfl
    rw [show (p : Int) + 1 = ((p + 1 : Nat) : Int) by omega]
    refine ih (p + 1) (by omega) (g3.k0 hk) (hA.ag g3 (fun b h1 h2 => by omega)) (by rw [g3.I (by omega)]; exact h73) (by rw [n3, gsu]) (fun j x hx => ?_) fun M' g' c' n' r' => hQ M' (g3.trans g') (fun k hk' => (c' k hk').trans (c3 k hk')) n' r'
    rw [take_succ_of hq, GT_app, GT_one] at hx
    rcases Nat.lt_or_ge j (GT (l.take p)).length with w | w
    · rw [List.getElem?_append_left w] at hx
      rw [r3 j w]; exact hr j x hx
    · rw [List.getElem?_append_right w] at hx
      have := s3 _ x hx
      rw [show (GT (l.take p)).length + (j - (GT (l.take p)).length) = j by omega] at this
      exact this
theorem st_again {n : Nat} {M : Im} (h : Good n M) (hn : n < 512) (kind : Int) : sp_X4_again 0 kind M (fun z M1 => sp_X5_again 69 kind M1 (Fin_ n z)) := by
  have w73 : alen 73 = 20 := rfl
  obtain ⟨r, E, l, Y, mk_, an, w, lk, hc, hm, hw⟩ := h
  have G := Good.same hc hm hw hn
  obtain ⟨f1, f2, f3, f4, f5, f6, f7, f8, f9, f10⟩ := hw.facts
  obtain ⟨hk, hP, ⟨t, t', hC, hT⟩, hL, ⟨c1, c2, c7, c8, c9⟩, cr, -⟩ := id hc
  obtain ⟨w0, -, wE, wWL, w15, wg, -, -, wmk, -⟩ := id hw
  have m23 := m23_iff hm.1.2.2.2.1
  have Lr := GT_rising wWL.1 wWL.2.1
  have Lb := GT_inR wWL.1
  unfold sp_X4_again
  refine ⟨iO_c hk (by decide) rfl, c_hasIndex hk hC hT (fun he => ⟨fun _ => c_isKind hk c2 (fun hb => ⟨fun _ => ?_, fun h => (by omega)⟩) (fun hb => ⟨fun h => absurd rfl h, fun _ => ?_⟩), fun h => (by omega)⟩) (fun he => ⟨fun h => absurd rfl h, fun _ => ?_⟩)⟩
  · rintro r5 rfl
    obtain ⟨ht, ht', h12, -, -, hcap, -, h300, -⟩ := hC.TL
    refine ⟨t, hC.2.1, TL_O ht hk, c_all hc hw fun M7 g7 hc7 r7 => ?_⟩
    obtain ⟨k7, P7, ⟨u, u', hC7, hT7⟩, hL7, ⟨d1, d2, d7, d8, d9⟩, -⟩ := id hc7
    have hut : u = t := by
      have := hC7.2.1
      rw [g7.R (by omega), hC.2.1] at this
      cases this; rfl
    subst hut
    rw [hT.2.2.1]
    have hki2 : kind = 2 → 1 ≤ E := fun h => by unfold bk at hb; omega
    have wm := WL_made (kind := kind) wE hki2 Lr Lb (by omega)
    have e : l.take 0 ++ mkk kind E (lf (GT l)) (GT l).length ++ l.drop l.length = mkk kind E (lf (GT l)) (GT l).length := by simp
    have key := c_replace (M := M7) (fr := 0) (to := l.length) (n := (GT l).length) (kind := kind) (made := mk_) (E := E) (f := lf (GT l)) (l := l) (Q := fun (i8 : Int) (M7 : Im) => sp_X5_again 69 kind M7 (Fin_ n i8)) hC7 k7 P7 hT7 d2 wE hki2 d8 (by omega) (Nat.zero_le _) (Nat.le_refl _) (by omega) (by omega) (fun q hq => (f5 q hq).1) (fun i hi => row_lf (b := 18) r7 i hi) (okF_lf Lr Lb) (by simp [ksum_nil]; omega) (by simp [tsum_nil]) (by rw [e]; exact okF_fk wm) (fun M' g1 g2 g3 g4' g5 g6 g7' => ?_)
    · exact key
    · rw [e] at g6 g7'
      have hc' : CI M' r E (mkk kind E (lf (GT l)) (GT l).length) (lys E 10 (mkk kind E (lf (GT l)) (GT l).length)) (mk_ + (mkk kind E (lf (GT l)) (GT l).length).length) an w lk := hc7.new g1 (fun j h6 h7 h8 => g2 j h6 h8) (by rw [g2 7 (by omega) (by omega)]; exact d7) g3 g4' g5 g6 g7'
      have hm' := IX_m g1 (hm.ag g7 (fun b hb => by omega))
      have k' := g1.k0 k7
      have m23' := m23_iff hm'.1.2.2.2.1
      unfold sp_X5_again
      refine ⟨iO_c k' (by decide) rfl, fun _ => d_isBuilt k' hm'.1.2.1 (fun _ => ⟨fun _ => ?_, fun h' => (by omega)⟩) (fun h => absurd hb h), fun h0 => absurd (m23'.mp h0) he⟩
      rintro M11 rfl
      have g11 : Ag (fun b => b = 69 ∨ b = 71) M' (pI M' 69 26 0) := (Ag.refl (S := fun b => b = 69 ∨ b = 71)).pI (Or.inl rfl)
      refine ⟨l.length + 1, ?_⟩
      refine d_again_27 (l := l) (flat_pre l Y) (by omega) (by omega) (by omega) (fun q hq => ⟨by have := w15 q hq; omega, (wWL.1 q hq).2.2.2.2.1⟩) l.length 0 (by omega) (g11.k0 k') (hm'.2.2.1.ag g11 (fun b h1 h2 => by omega)) (by rw [g11.I (by omega)]; exact (lv73 hm'.2.2.2.1).2) (by simp [gI_pI, gI_pL, gI_pD, gI_pR, gI_pnw, gI_pcp, gL_pI, gL_pL, gL_pD, gL_pR, gL_pnw, gL_pcp, gD_pI, gD_pL, gD_pD, gD_pR, gD_pnw, gD_pcp, gR_pI, gR_pL, gR_pD, gR_pR, gR_pnw, gR_pcp, gz_pI, gz_pL, gz_pD, gz_pR, gz_pnw, gz_pcp, GT]) (fun j x hx => by simp [GT] at hx) fun M2 g2' c2' n2 r2 => ⟨by omega, ?_⟩
      rintro M5 rfl
      have gg : Ag MS M' M2 := (g11.trans g2').mono fun b hb => by unfold MS; omega
      have m2 : MI M2 r E l Y mk_ an w lk := hm'.keep gg (fun j hj => by rw [c2' j (by omega)]; simp only [gI_pI, gI_pL, gI_pD, gI_pR, gI_pnw, gI_pcp, gL_pI, gL_pL, gL_pD, gL_pR, gL_pnw, gL_pcp, gD_pI, gD_pL, gD_pD, gD_pR, gD_pnw, gD_pcp, gR_pI, gR_pL, gR_pD, gR_pR, gR_pnw, gR_pcp, gz_pI, gz_pL, gz_pD, gz_pR, gz_pnw, gz_pcp]; rw [if_neg (by omega)])
      refine d_new (L := GT l) (gg.k0 k') m2 wE hb (by omega) Lr Lb wg n2 r2 fun M6 g6' m6 => ?_
      unfold sp_X5_pieces
      refine ⟨iO_c (g6'.k0 (gg.k0 k')) (by decide) rfl, by omega, ?_⟩
      rw [(lv73 m6.2.2.2.1).2]
      have GG : Ag (fun b => 69 ≤ b ∧ b < 97) M' M6 := (gg.mono fun b hb => by unfold MS at hb; omega).trans (g6'.mono fun b hb => by unfold AgR at hb; omega)
      exact ⟨rfl, r, E, _, _, _, an, w, lk, hc'.ag GG (fun b hb => by omega), m6, hw.new hn hb Lr Lb wg⟩
  · unfold sp_X5_again
    exact ⟨iO_c hk (by decide) rfl, fun _ => d_isBuilt hk hm.1.2.1 (fun h => absurd h hb) (fun _ => ⟨fun h => absurd rfl h, fun _ => ⟨rfl, G⟩⟩), fun h0 => absurd (m23.mp h0) he⟩
  · unfold sp_X5_again
    exact ⟨iO_c hk (by decide) rfl, fun h => absurd (m23.mpr he) h, fun _ => ⟨rfl, G⟩⟩
/-! merge -/
theorem mid2 {l : List Pc} {p : Nat} {a b : Pc} (ha : l[p]? = some a) (hb : l[p + 1]? = some b) : (l.take (p + 2)).drop p = [a, b] := by
  have hp := (List.getElem?_eq_some_iff.mp hb).1
  rw [take_succ_of (show l[p + 1]? = some b from hb), take_succ_of ha, List.append_assoc]
  have : (l.take p).length = p := by rw [List.length_take]; omega
  have h2 := List.drop_left (l₁ := l.take p) (l₂ := [a] ++ [b])
  rw [this] at h2
  exact h2
theorem mid1 {l : List Pc} {p : Nat} {a : Pc} (ha : l[p]? = some a) : (l.take (p + 1)).drop p = [a] := by
  have hp := (List.getElem?_eq_some_iff.mp ha).1
  rw [take_succ_of ha]
  have : (l.take p).length = p := by rw [List.length_take]; omega
  have h2 := List.drop_left (l₁ := l.take p) (l₂ := [a])
  rw [this] at h2
  exact h2
theorem st_merge {n : Nat} {M : Im} (h : Good n M) (hn : n < 512) (x : Int) : sp_X4_merge 0 x M (fun z M1 => sp_X5_merge 69 x M1 (Fin_ n z)) := by
  have w73 : alen 73 = 20 := rfl
  obtain ⟨r, E, l, Y, mk_, an, w, lk, hc, hm, hw⟩ := h
  have G := Good.same hc hm hw hn
  obtain ⟨f1, f2, f3, f4, f5, f6, f7, f8, f9, f10⟩ := hw.facts
  obtain ⟨hk, hP, ⟨t, t', hC, hT⟩, hL, ⟨c1, c2, c7, c8, c9⟩, cr, -⟩ := id hc
  obtain ⟨w0, -, wE, wWL, w15, wg, ws, -, wmk, wan, -⟩ := id hw
  have m23 := m23_iff hm.1.2.2.2.1
  obtain ⟨ht, ht', h12, -, -, hcap, -, h300, -⟩ := hC.TL
  have no : (x < 0 ∨ (l.length : Int) - 1 ≤ x) → sp_X5_merge 69 x M (Fin_ n (-1)) := fun h => by
    unfold sp_X5_merge
    refine ⟨iO_c hk (by decide) rfl, fun _ => ⟨rfl, G⟩, fun _ => ⟨fun _ => ⟨rfl, G⟩, fun hx => ?_⟩⟩
    unfold sp_X5_pieces
    refine ⟨iO_c hk (by decide) rfl, by omega, ?_⟩
    dsimp only
    rw [(lv73 hm.2.2.2.1).2]
    exact ⟨by omega, fun h' => by omega, fun _ => ⟨rfl, G⟩⟩
  unfold sp_X4_merge
  refine ⟨iO_c hk (by decide) rfl, fun h => no (Or.inl h), fun hx => ?_⟩
  rintro r1 rfl
  refine ⟨t, hC.2.1, TL_O ht hk, ?_⟩
  rw [hT.2.2.1]
  refine ⟨by omega, fun hlt => ?_, fun h => no (Or.inr h)⟩
  rintro r3 rfl
  refine ⟨t, hC.2.1, TL_O ht hk, by omega, ?_⟩
  obtain ⟨p, hp⟩ : ∃ p : Nat, x = (p : Int) := ⟨x.toNat, by omega⟩
  subst hp
  have hqa := pcAt_get (l := l) (p := p) (by omega)
  have hqb := pcAt_get (l := l) (p := p + 1) (by omega)
  generalize pcAt l p = qa at hqa
  generalize pcAt l (p + 1) = qb at hqb
  have he : l ≠ [] := fun e => by rw [e] at hqa; simp at hqa
  have hR : RepOk l p (p + 2) := ⟨wWL, by omega, by omega, by omega, wg, by omega, by omega⟩
  obtain ⟨l1, l2, l3, l4, l5⟩ := hR.L
  have emid := mid2 hqa hqb
  rw [show (p : Int) + 2 = ((p + 2 : Nat) : Int) by omega]
  refine c_gather hk ht hT (by omega) (by omega) (by omega) (by omega) (by omega) (by omega) fun M5 g5 r5 => ⟨by omega, ?_⟩
  rw [l4] at r5 ⊢
  have hc5 := hc.ag g5 (fun b hb => by omega)
  refine c_rep (kind := 1) hc5 wE (fun h => by omega) (by omega) hR r5 fun M7 g7 hc7 => ?_
  have hm7 := IX_m g7 (hm.ag g5 (fun b hb => by omega))
  have k7 := g7.k0 hc5.1
  have m23' := m23_iff hm7.1.2.2.2.1
  have e73 := (lv73 hm7.2.2.2.1).2
  unfold sp_X5_merge
  refine ⟨iO_c k7 (by decide) rfl, fun h0 => absurd (m23'.mp h0) he, fun _ => ⟨fun h => by omega, fun _ => ?_⟩⟩
  unfold sp_X5_pieces
  refine ⟨iO_c k7 (by decide) rfl, by omega, ?_⟩
  dsimp only
  rw [e73]
  refine ⟨by omega, fun _ => ?_, fun h => by omega⟩
  rintro M3 rfl
  have g3 : Ag (fun b => b = 69 ∨ b = 71) M7 (pI M7 69 26 0) := (Ag.refl (S := fun b => b = 69 ∨ b = 71)).pI (Or.inl rfl)
  have hPa := hm7.2.2.1 p qa (by rw [List.flatten_cons, List.getElem?_append_left (by omega)]; exact hqa)
  have hPb := hm7.2.2.1 (p + 1) qb (by rw [List.flatten_cons, List.getElem?_append_left (by omega)]; exact hqb)
  rw [List.flatten_cons, List.take_append_of_le_length (by omega)] at hPa hPb
  have kina := ksum_in hqa
  have kinb := ksum_in hqb
  have gab : (GT [qa, qb]).length = (mq qa).length + (mq qb).length := by rw [GT_cons, GT_one, List.length_append]
  rw [emid] at l1
  have MPf : ∀ {M1 M2 : Im} {g fr : Nat} {q : Pc}, Ag (fun b => b = 69 ∨ b = 71) M1 M2 → MP M1 g fr q → MP M2 g fr q := fun g h => h.frame (fun b h1 h2 => g.I (by omega) _) (fun b h1 h2 => g.L (by omega) _) (fun i _ => ⟨g.L (by omega) _, g.I (by omega) _⟩) (fun i _ => g.L (by omega) _)
  refine d_gather (g := 0) (fr := ksum (l.take p)) (g3.k0 k7) (by omega) (by omega) (by have := w15 qa (List.mem_of_getElem? hqa); omega) (wWL.1 qa (List.mem_of_getElem? hqa)).2.2.2.2.1 (MPf g3 hPa) (by simp [gI_pI, gI_pL, gI_pD, gI_pR, gI_pnw, gI_pcp, gL_pI, gL_pL, gL_pD, gL_pR, gL_pnw, gL_pcp, gD_pI, gD_pL, gD_pD, gD_pR, gD_pnw, gD_pcp, gR_pI, gR_pL, gR_pD, gR_pR, gR_pnw, gR_pcp, gz_pI, gz_pL, gz_pD, gz_pR, gz_pnw, gz_pcp]) (by omega) fun M4 g4 c4 _ n4 _ s4 => ⟨by omega, ?_⟩
  rw [show (p : Int) + 1 = ((p + 1 : Nat) : Int) by omega]
  rw [Nat.zero_add] at n4
  refine d_gather (g := (mq qa).length) (fr := ksum (l.take (p + 1))) (g4.k0 (g3.k0 k7)) (by omega) (by omega) (by have := w15 qb (List.mem_of_getElem? hqb); omega) (wWL.1 qb (List.mem_of_getElem? hqb)).2.2.2.2.1 (MPf (g3.trans g4) hPb) n4 (by omega) fun M5' g5' c5' _ n5 r5' s5 => ?_
  have gg : Ag (fun b => b = 69 ∨ b = 71) M7 M5' := (g3.trans g4).trans g5'
  have m5 : MI M5' r E l Y mk_ an w lk := hm7.keep (gg.mono fun b hb => by unfold MS; omega) (fun j hj => by rw [c5' j (by omega), c4 j (by omega)]; simp only [gI_pI, gI_pL, gI_pD, gI_pR, gI_pnw, gI_pcp, gL_pI, gL_pL, gL_pD, gL_pR, gL_pnw, gL_pcp, gD_pI, gD_pL, gD_pD, gD_pR, gD_pnw, gD_pcp, gR_pI, gR_pL, gR_pD, gR_pR, gR_pnw, gR_pcp, gz_pI, gz_pL, gz_pD, gz_pR, gz_pnw, gz_pcp]; rw [if_neg (by omega)])
  have k5 := gg.k0 k7
  refine ⟨iO_c k5 (by decide) rfl, by omega, ?_⟩
  rw [(lv73 m5.2.2.2.1).2]
  refine ⟨by omega, ?_⟩
  rintro i8 rfl
  refine ⟨by omega, ?_⟩
  refine d_rep (kind := 1) k5 m5 wE (Or.inl rfl) (by omega) hR (fun q hq => by have := w15 q hq; omega) (by rw [emid, n5, gab]) (fun j y hy => ?_) fun M9 g9 m9 => ?_
  · rw [emid, GT_cons, GT_one] at hy
    rcases Nat.lt_or_ge j (mq qa).length with v | v
    · rw [List.getElem?_append_left v] at hy
      rw [r5' j v]
      have := s4 j y hy
      rw [Nat.zero_add] at this
      exact this
    · rw [List.getElem?_append_right v] at hy
      have := s5 _ y hy
      rw [show (mq qa).length + (j - (mq qa).length) = j by omega] at this
      exact this
  · refine ⟨iO_c (g9.k0 k5) (by decide) rfl, by omega, ?_⟩
    obtain ⟨o1, o2, o3, o4⟩ := hR.out (kind := 1) wE (fun h => by omega)
    have ln : (repl 1 E l p (p + 2)).length = p + (newP 1 E l p (p + 2)).length + (l.length - (p + 2)) := by unfold repl; rw [List.length_append, List.length_append, List.length_take, List.length_drop]; omega
    rw [(lv73 m9.2.2.2.1).2, ln]
    have GG : Ag (fun b => 69 ≤ b ∧ b < 97) M7 M9 := (gg.mono fun b hb => by omega).trans (g9.mono fun b hb => by unfold AgR at hb; omega)
    exact ⟨by omega, by omega, r, E, _, _, _, an, w, lk, hc7.ag GG (fun b hb => by omega), m9, hw.rep hn (fun h => by omega) hR (fun q hq => hq.elim (fun v => w15 q (List.mem_of_mem_take v)) (fun v => w15 q (List.mem_of_mem_drop v))) (by omega) (by omega)⟩
