/-! ===== clear, round ===== -/
/-- what a replacing or marking method of the class leaves -/
theorem CI.anew {M M' : Im} {r : List Int} {E : Int} {l l' : List Pc} {Y Y' : List (List Pc)} {mk_ an mk' an' : Int} {w : List Int} {lk : Nat} {t t' : Nat} (h : CI M r E l Y mk_ an w lk) (g : AgL IX M M') (hP : Pool M') (hC : CT M' t t') (hT : TR M' t l') (hL : Lay M' Y') (h12 : gI M' 0 1 = gI M 0 1 ∧ gI M' 0 2 = gI M 0 2) (h7 : gI M' 0 7 = (GT l').length) (h8 : gI M' 0 8 = mk') (h9 : gI M' 0 9 = an') : CI M' r E l' Y' mk' an' w lk := by
  obtain ⟨a0, a1, -, a4, ⟨b1, b2, -⟩, a6, a7, a8⟩ := h
  have o : ∀ b, b = 1 ∨ b = 13 ∨ b = 14 → ¬ IX b := fun b hb w => by unfold IX at w; omega
  refine ⟨g.k0 a0, hP, ⟨t, t', hC, hT⟩, hL, ⟨by rw [h12.1]; exact b1, by rw [h12.2]; exact b2, h7, h8, h9⟩, fun i v hv => by rw [g.L (o 1 (by omega))]; exact a6 i v hv, ⟨by rw [g.I (o 13 (by omega))]; exact a7.1, fun j v hv => by rw [g.I (o 14 (by omega))]; exact a7.2 j v hv⟩, by rw [g.I (o 13 (by omega))]; exact a8⟩
theorem MI.anew {M M' : Im} {r : List Int} {E : Int} {l l' : List Pc} {Y Y' : List (List Pc)} {mk_ an mk' an' : Int} {w : List Int} {lk : Nat} (h : MI M r E l Y mk_ an w lk) (g : Ag (fun b => AgR b ∨ b = 95) M M') (hI : ∀ j, j = 1 ∨ j = 2 ∨ j = 40 ∨ j = 42 ∨ j = 46 → gI M' 69 j = gI M 69 j) (h9 : gI M' 69 9 = Y'.length) (h23 : gI M' 69 23 = (if l' = [] then 0 else 1)) (h24 : gI M' 69 24 = mk') (h25 : gI M' 69 25 = an') (hA : MA M' (l' :: Y').flatten) (hV : MLv M' (l' :: Y')) : MI M' r E l' Y' mk' an' w lk := by
  obtain ⟨⟨b1, b2, -, -, -, -, b40, b42, b46⟩, a2, -, -, a5⟩ := h
  have o : ∀ b, b = 70 ∨ b = 96 → ¬ (AgR b ∨ b = 95) := fun b hb w => by unfold AgR at w; omega
  exact ⟨⟨by rw [hI 1 (by omega)]; exact b1, by rw [hI 2 (by omega)]; exact b2, h9, h23, h24, h25, by rw [hI 40 (by omega)]; exact b40, by rw [hI 42 (by omega)]; exact b42, by rw [hI 46 (by omega)]; exact b46⟩, fun i v hv => by rw [g.L (o 70 (by omega))]; exact a2 i v hv, hA, hV, fun j v hv => by rw [g.I (o 96 (by omega))]; exact a5 j v hv⟩
theorem IX_m {M M' : Im} (g : AgL IX M M') : ∀ {r : List Int} {E : Int} {l : List Pc} {Y : List (List Pc)} {mk_ an : Int} {w : List Int} {lk : Nat}, MI M r E l Y mk_ an w lk → MI M' r E l Y mk_ an w lk := fun h => h.agL g (fun b hb => by unfold IX at hb; omega)
theorem Lay.ixAg {S : Nat → Prop} {M M' : Im} {Y : List (List Pc)} (h : Lay M Y) (g : Ag S M M') (hS : ∀ b, S b → b < 19 ∨ (69 ≤ b ∧ b < 97)) (h6 : gI M' 0 6 = gI M 0 6) : Lay M' Y := by
  refine ⟨by rw [h6]; exact h.1, h.2.1, fun i y hy => ?_⟩
  have := (List.getElem?_eq_some_iff.mp hy).1
  have hl := h.2.1
  exact (h.2.2 i y hy).ag g (fun b h1 h2 h3 => by have := hS b h3; omega) (fun b hb h3 => by have := hS b h3; omega)
theorem WL_nil : WL [] := ⟨fun q hq => by simp at hq, List.Pairwise.nil, fun p q _ hq => by simp at hq⟩
theorem lys_nil (E : Int) (d : Nat) : lys E d [] = [] := by
  cases d with
  | zero => rfl
  | succ d => unfold lys; rw [if_neg (by simp)]
theorem st_clear {n : Nat} {M : Im} (h : Good n M) (hn : n < 512) : sp_X4_clear 0 M (fun z M1 => sp_X5_clear 69 M1 (Fin_ n z)) := by
  have w73 : alen 73 = 20 := rfl
  obtain ⟨r, E, l, Y, mk_, an, w, lk, hc, hm, hw⟩ := h
  obtain ⟨f1, f2, f3, f4, f5, f6, f7, f8, f9, f10⟩ := hw.facts
  obtain ⟨hk, hP, ⟨t, t', hC, hT⟩, hL, ⟨c1, c2, c7, c8, c9⟩, -⟩ := id hc
  obtain ⟨ht, ht', h12, -, -, hcap, -, h300, -⟩ := hC.TL
  have ft := TL_facts t ht
  obtain ⟨-, -, -, -, -, ft1, ft2, -, -, -, ft3, ft4, ft5⟩ := ft
  unfold sp_X4_clear
  refine ⟨iO_c hk (by decide) rfl, ?_⟩
  rintro i1 rfl r2 rfl
  refine ⟨t, hC.2.1, TL_O ht hk, c_empty hk ht fun M4 g4 T4 => ?_⟩
  rintro M5 rfl M6 rfl
  have g6 : Ag (fun b => b = 0 ∨ b = t) M (pI (pI M4 0 6 0) 0 7 0) := ((g4.mono (S' := fun b => b = 0 ∨ b = t) (fun b hb => Or.inr hb)).pI (Or.inl rfl)).pI (Or.inl rfl)
  have a6 : gI (pI (pI M4 0 6 0) 0 7 0) 0 6 = 0 := by simp [gI_pI, gI_pL, gI_pD, gI_pR, gI_pnw, gI_pcp, gL_pI, gL_pL, gL_pD, gL_pR, gL_pnw, gL_pcp, gD_pI, gD_pL, gD_pD, gD_pR, gD_pnw, gD_pcp, gR_pI, gR_pL, gR_pD, gR_pR, gR_pnw, gR_pcp, gz_pI, gz_pL, gz_pD, gz_pR, gz_pnw, gz_pcp]
  have a7 : gI (pI (pI M4 0 6 0) 0 7 0) 0 7 = 0 := by simp [gI_pI, gI_pL, gI_pD, gI_pR, gI_pnw, gI_pcp, gL_pI, gL_pL, gL_pD, gL_pR, gL_pnw, gL_pcp, gD_pI, gD_pL, gD_pD, gD_pR, gD_pnw, gD_pcp, gR_pI, gR_pL, gR_pD, gR_pR, gR_pnw, gR_pcp, gz_pI, gz_pL, gz_pD, gz_pR, gz_pnw, gz_pcp]
  have ao : ∀ j, j ≠ 6 → j ≠ 7 → gI (pI (pI M4 0 6 0) 0 7 0) 0 j = gI M 0 j := fun j h6 h7 => by simp only [gI_pI, gI_pL, gI_pD, gI_pR, gI_pnw, gI_pcp, gL_pI, gL_pL, gL_pD, gL_pR, gL_pnw, gL_pcp, gD_pI, gD_pL, gD_pD, gD_pR, gD_pnw, gD_pcp, gR_pI, gR_pL, gR_pD, gR_pR, gR_pnw, gR_pcp, gz_pI, gz_pL, gz_pD, gz_pR, gz_pnw, gz_pcp]; rw [if_neg (by omega), if_neg (by omega), g4.I (by omega)]
  have aR : ∀ j, gR (pI (pI M4 0 6 0) 0 7 0) 0 j = gR M 0 j := fun j => by simp only [gI_pI, gI_pL, gI_pD, gI_pR, gI_pnw, gI_pcp, gL_pI, gL_pL, gL_pD, gL_pR, gL_pnw, gL_pcp, gD_pI, gD_pL, gD_pD, gD_pR, gD_pnw, gD_pcp, gR_pI, gR_pL, gR_pD, gR_pR, gR_pnw, gR_pcp, gz_pI, gz_pL, gz_pD, gz_pR, gz_pnw, gz_pcp]; exact g4.R (by omega) j
  have T6 : TR (pI (pI M4 0 6 0) 0 7 0) t [] := T4.ag (S := (· = 0)) (((Ag.refl (S := (· = 0))).pI rfl).pI rfl) (fun b h1 h2 => by omega) (fun b hb => by omega)
  generalize pI (pI M4 0 6 0) 0 7 0 = M6 at g6 a6 a7 ao aR T6
  have P6 : Pool M6 := hP.ag g6 (fun v hv => by have := TL_facts v hv; obtain ⟨-, -, -, -, -, fv1, fv2, -, -, -, fv3, fv4, fv5⟩ := this; omega)
  have C6 : CT M6 t t' := ⟨hC.1, by rw [aR]; exact hC.2.1, by rw [aR]; exact hC.2.2⟩
  have G6 : AgL IX M M6 := (g6.mono fun b hb => by unfold IX; omega).toL
  have hc6 : CI M6 r E [] [] mk_ an w lk := hc.anew G6 P6 C6 T6 ⟨a6, by simp, fun i y hy => by simp at hy⟩ ⟨ao 1 (by omega) (by omega), ao 2 (by omega) (by omega)⟩ (by rw [a7]; rfl) (by rw [ao 8 (by omega) (by omega)]; exact c8) (by rw [ao 9 (by omega) (by omega)]; exact c9)
  have hm6 := IX_m G6 hm
  have k6 := G6.k0 hk
  rw [c7]
  unfold sp_X5_clear
  refine ⟨iO_c k6 (by decide) rfl, d_there k6 hm6.2.2.1 (flat_pre l Y) (by omega) (by omega) (by omega) hm6.1.2.2.2.1 (lv73 hm6.2.2.2.1).2 ?_⟩
  rintro M3 rfl M4' rfl
  refine ⟨by omega, ?_⟩
  rintro M5 rfl
  have g : Ag (fun b => AgR b ∨ b = 95) M6 (pI (pI (pI M6 69 23 0) 69 9 0) 73 0 0) := (((Ag.refl (S := fun b => AgR b ∨ b = 95)).pI (Or.inl (Or.inl rfl))).pI (Or.inl (Or.inl rfl))).pI (Or.inl (Or.inr (by omega)))
  refine ⟨rfl, r, E, [], [], mk_, an, w, lk, hc6.ag g (fun b hb => by unfold AgR at hb; omega), hm6.anew g (fun j hj => by simp only [gI_pI, gI_pL, gI_pD, gI_pR, gI_pnw, gI_pcp, gL_pI, gL_pL, gL_pD, gL_pR, gL_pnw, gL_pcp, gD_pI, gD_pL, gD_pD, gD_pR, gD_pnw, gD_pcp, gR_pI, gR_pL, gR_pD, gR_pR, gR_pnw, gR_pcp, gz_pI, gz_pL, gz_pD, gz_pR, gz_pnw, gz_pcp]; rw [if_neg (by omega), if_neg (by omega), if_neg (by omega)]) (by simp [gI_pI, gI_pL, gI_pD, gI_pR, gI_pnw, gI_pcp, gL_pI, gL_pL, gL_pD, gL_pR, gL_pnw, gL_pcp, gD_pI, gD_pL, gD_pD, gD_pR, gD_pnw, gD_pcp, gR_pI, gR_pL, gR_pD, gR_pR, gR_pnw, gR_pcp, gz_pI, gz_pL, gz_pD, gz_pR, gz_pnw, gz_pcp]) (by simp [gI_pI, gI_pL, gI_pD, gI_pR, gI_pnw, gI_pcp, gL_pI, gL_pL, gL_pD, gL_pR, gL_pnw, gL_pcp, gD_pI, gD_pL, gD_pD, gD_pR, gD_pnw, gD_pcp, gR_pI, gR_pL, gR_pD, gR_pR, gR_pnw, gR_pcp, gz_pI, gz_pL, gz_pD, gz_pR, gz_pnw, gz_pcp]) (by simp only [gI_pI, gI_pL, gI_pD, gI_pR, gI_pnw, gI_pcp, gL_pI, gL_pL, gL_pD, gL_pR, gL_pnw, gL_pcp, gD_pI, gD_pL, gD_pD, gD_pR, gD_pnw, gD_pcp, gR_pI, gR_pL, gR_pD, gR_pR, gR_pnw, gR_pcp, gz_pI, gz_pL, gz_pD, gz_pR, gz_pnw, gz_pcp]; rw [if_neg (by omega), if_neg (by omega), if_neg (by omega)]; exact hm6.1.2.2.2.2.1) (by simp only [gI_pI, gI_pL, gI_pD, gI_pR, gI_pnw, gI_pcp, gL_pI, gL_pL, gL_pD, gL_pR, gL_pnw, gL_pcp, gD_pI, gD_pL, gD_pD, gD_pR, gD_pnw, gD_pcp, gR_pI, gR_pL, gR_pD, gR_pR, gR_pnw, gR_pcp, gz_pI, gz_pL, gz_pD, gz_pR, gz_pnw, gz_pcp]; rw [if_neg (by omega), if_neg (by omega), if_neg (by omega)]; exact hm6.1.2.2.2.2.2.1) (fun p q hq => by simp at hq) (fun i y hy => ?_), ?_⟩
  · have : i = 0 := by
      have := (List.getElem?_eq_some_iff.mp hy).1
      simp at this; exact this
    subst this
    have ey : y = [] := by simpa using hy.symm
    subst ey
    refine ⟨?_, ?_⟩
    · simp [gI_pI, gI_pL, gI_pD, gI_pR, gI_pnw, gI_pcp, gL_pI, gL_pL, gL_pD, gL_pR, gL_pnw, gL_pcp, gD_pI, gD_pL, gD_pD, gD_pR, gD_pnw, gD_pcp, gR_pI, gR_pL, gR_pD, gR_pR, gR_pnw, gR_pcp, gz_pI, gz_pL, gz_pD, gz_pR, gz_pnw, gz_pcp]; exact (lv73 hm6.2.2.2.1).1
    · simp [gI_pI, gI_pL, gI_pD, gI_pR, gI_pnw, gI_pcp, gL_pI, gL_pL, gL_pD, gL_pR, gL_pnw, gL_pcp, gD_pI, gD_pL, gD_pD, gD_pR, gD_pnw, gD_pcp, gR_pI, gR_pL, gR_pD, gR_pR, gR_pnw, gR_pcp, gz_pI, gz_pL, gz_pD, gz_pR, gz_pnw, gz_pcp]
  · obtain ⟨v0, v1, v2, v3, v4, v5, v6, ⟨E', v7, v7'⟩, v8, v9, v10⟩ := hw.next hn
    exact ⟨v0, v1, v2, WL_nil, fun q hq => by simp at hq, by simp [GT], by rw [ksum_nil, tsum_nil]; omega, ⟨E', v7, by rw [lys_nil]⟩, v8, v9, v10⟩
/-! round -/
theorem MA.setK {M M' : Im} {A : List Pc} {p : Nat} {q q' : Pc} (h : MA M A) (hq : A[p]? = some q) (hr : pks q' = pks q ∧ plt q' = plt q ∧ q'.1.2 = q.1.2) (g : Ag (fun b => b = 69 ∨ b = 74) M M') (h74 : ∀ g, g ≠ p → gI M' 74 g = gI M 74 g) (hk : gI M' 74 p = pki q') : MA M' (A.set p q') := by
  have hp := (List.getElem?_eq_some_iff.mp hq).1
  have ek : (pks q').length = (pks q).length := by rw [hr.1]
  intro x y hy
  rw [ksum_take_set hq ek]
  by_cases c : x = p
  · subst c
    rw [List.getElem?_set_self hp] at hy
    cases hy
    obtain ⟨⟨a0, a1, a2, a3, a4⟩, ⟨a6, a7, a8⟩, b1, b2⟩ := h x q hq
    have e1 : pma q' = pma q := congrArg Prod.fst hr.2.2
    have e2 : pln q' = pln q := congrArg Prod.snd hr.2.2
    refine ⟨⟨hk, by rw [g.I (by omega)]; exact a1, by rw [g.I (by omega), ek]; exact a2, by rw [g.I (by omega), e1]; exact a3, by rw [g.I (by omega), hr.2.1]; exact a4⟩, ⟨by rw [g.L (by omega), e2]; exact a6, by rw [g.L (by omega), e2]; exact a7, by rw [g.L (by omega), e2]; exact a8⟩, fun i hi => ?_, fun i hi => ?_⟩
    · rw [ek] at hi
      rw [g.L (by omega), g.I (by omega)]
      unfold kf df
      rw [hr.1]
      exact b1 i hi
    · rw [hr.2.1] at hi
      rw [g.L (by omega)]
      unfold tf
      rw [hr.2.1]
      exact b2 i hi
  · rw [List.getElem?_set_ne (by omega)] at hy
    refine (h x y hy).frame (fun b h1 h2 => ?_) (fun b h1 h2 => g.L (by omega) x) (fun i _ => ⟨g.L (by omega) _, g.I (by omega) _⟩) (fun i _ => g.L (by omega) _)
    by_cases c2 : b = 74
    · rw [c2]; exact h74 x c
    · exact g.I (by omega) x
theorem flat_set {l : List Pc} {Y : List (List Pc)} {p : Nat} {q : Pc} (h : p < l.length) : (l.set p q :: Y).flatten = (l :: Y).flatten.set p q := by
  rw [List.flatten_cons, List.flatten_cons, List.set_append_left _ _ h]
theorem MLv.set {M : Im} {l : List Pc} {Y : List (List Pc)} {p : Nat} {q : Pc} (h : MLv M (l :: Y)) : MLv M (l.set p q :: Y) := by
  intro i y hy
  have ln : ∀ i, ((l.set p q :: Y).take i).flatten.length = ((l :: Y).take i).flatten.length := fun i => by
    cases i with
    | zero => rfl
    | succ i => rw [List.take_succ_cons, List.take_succ_cons, List.flatten_cons, List.flatten_cons, List.length_append, List.length_append, List.length_set]
  rw [ln, ln]
  cases i with
  | zero => exact h 0 l rfl
  | succ i =>
    rw [List.getElem?_cons_succ] at hy
    exact h (i + 1) y (by rw [List.getElem?_cons_succ]; exact hy)
/-- one piece of the index changed: well-formed as before -/
theorem WF.set {n : Nat} {r : List Int} {E : Int} {l : List Pc} {Y : List (List Pc)} {mk_ an : Int} {w : List Int} {lk : Nat} {p : Nat} {q q' : Pc} (h : WF n r E l Y mk_ an w lk) (hn : n < 512) (hq : l[p]? = some q) (hWL : WL (l.set p q')) (hk : kf q' 0 = kf q 0) (hl : (plt q').length ≤ 15) (hg : (GT (l.set p q')).length ≤ 300) (hs : (pks q').length = (pks q).length ∧ 2 * (plt q').length + (GT l).length ≤ 2 * (plt q).length + 1 + (GT (l.set p q')).length) : WF (n + 1) r E (l.set p q') Y mk_ an w lk := by
  obtain ⟨v0, v1, v2, v3, v4, v5, v6, ⟨E', v7, v7'⟩, v8, v9, v10⟩ := h.next hn
  have h6 := h.2.2.2.2.2.2.1
  have e1 := ksum_set hq hs.1
  have e2 := tsum_set' (q' := q') hq
  refine ⟨v0, v1, v2, hWL, fun x hx => ?_, hg, by omega, ⟨E', v7, by rw [lys_set hq hk]; exact v7'⟩, v8, v9, v10⟩
  rcases List.mem_or_eq_of_mem_set hx with w | w
  · exact v4 x w
  · rw [w]; exact hl
theorem Lay.frI {M M' : Im} {t : Nat} {Y : List (List Pc)} (h : Lay M Y) (hB : LayB Y) (ht : t ∈ TL) (h12 : t < 12) (g : Fr (fun _ => False) t M M') (hP : Pool M') : Lay M' Y := by
  obtain ⟨x1, x2, x3, x4⟩ := g.X ht h12 (fun b h => h.elim) hP
  refine ⟨by rw [x2]; exact h.1, h.2.1, fun i y hy => ?_⟩
  have hi := (List.getElem?_eq_some_iff.mp hy).1
  have hl := h.2.1
  have ft := TL_facts t ht
  exact (h.2.2 i y hy).other ht (UT_in (by omega)) (by omega) (hB i y hy).1 g hP (fun b hb => hb.elim)
/-- the class, after a change of one piece of its index -/
theorem CI.set {M M' : Im} {r : List Int} {E : Int} {l l' : List Pc} {Y : List (List Pc)} {mk_ an : Int} {w : List Int} {lk t t' : Nat} (h : CI M r E l Y mk_ an w lk) (hB : LayB Y) (hC : CT M t t') (g : Fr (fun _ => False) t M M') (hP : Pool M') (hT : TR M' t l') (h7 : gI M 0 7 = (GT l').length) : CI M' r E l' Y mk_ an w lk := by
  obtain ⟨ht, ht', h12, -⟩ := hC.TL
  obtain ⟨x1, x2, x3, x4⟩ := g.X ht h12 (fun b h => h.elim) hP
  exact h.anew x1 hP ⟨hC.1, by rw [x3]; exact hC.2.1, by rw [x3]; exact hC.2.2⟩ hT (h.2.2.2.1.frI hB ht h12 g hP) ⟨x2 1, x2 2⟩ (by rw [x2]; exact h7) (by rw [x2]; exact h.2.2.2.2.1.2.2.2.1) (by rw [x2]; exact h.2.2.2.2.1.2.2.2.2)
theorem fr_m {t : Nat} {M M' : Im} (ht : t ∈ TL) (h12 : t < 12) (g : Fr (fun _ => False) t M M') (hP : Pool M') : ∀ {r : List Int} {E : Int} {l : List Pc} {Y : List (List Pc)} {mk_ an : Int} {w : List Int} {lk : Nat}, MI M r E l Y mk_ an w lk → MI M' r E l Y mk_ an w lk := IX_m (g.X ht h12 (fun b h => h.elim) hP).1
theorem st_round {n : Nat} {M : Im} (h : Good n M) (hn : n < 512) (x : Int) : sp_X4_round 0 x M (fun z M1 => sp_X5_round 69 x M1 (Fin_ n z)) := by
  have w73 : alen 73 = 20 := rfl
  have w74 : alen 74 = 10000 := rfl
  have w77 : alen 77 = 10000 := rfl
  obtain ⟨r, E, l, Y, mk_, an, w, lk, hc, hm, hw⟩ := h
  have G := Good.same hc hm hw hn
  obtain ⟨f1, f2, f3, f4, f5, f6, f7, f8, f9, f10⟩ := hw.facts
  obtain ⟨hk, hP, ⟨t, t', hC, hT⟩, hL, ⟨c1, c2, c7, c8, c9⟩, -⟩ := id hc
  obtain ⟨ht, ht', h12, -, -, hcap, -, h300, -⟩ := hC.TL
  have m23 := m23_iff hm.1.2.2.2.1
  unfold sp_X4_round
  refine ⟨iO_c hk (by decide) rfl, ?_⟩
  rintro r1 rfl
  refine ⟨t, hC.2.1, TL_O ht hk, ?_⟩
  refine c_pieceAt hk ht hT (by omega) (fun p q a hp hq ha1 ha2 hr hPR => ⟨fun h => (by cases h), fun a5 h5 => ?_⟩) (fun h => ⟨fun _ => ?_, fun a h => (by cases h)⟩)
  · cases h5
    have kin := ksum_in hq
    have hlt := (List.getElem?_eq_some_iff.mp hq).1
    have hgd := hw.2.2.2.1.1 q (List.mem_of_getElem? hq)
    have hok := hgd.1
    have he : l ≠ [] := fun e => by rw [e] at hq; simp at hq
    have hP0 := hm.2.2.1 p q (by rw [List.flatten_cons, List.getElem?_append_left hlt]; exact hq)
    refine ⟨iO_hi ha1 ha2, ?_⟩
    rw [hPR.1.1]
    refine ⟨fun h1 => ?_, fun h1 => ?_⟩
    · rintro r7 rfl
      refine ⟨t, hC.2.1, TL_O ht hk, ?_⟩
      obtain ⟨rl1, rl2⟩ := rnd_rows q
      refine c_turnRounded hk ht ha1 ha2 hPR hT.1 kin (by omega) hok.1 hok.2.2.1 fun M9 g9 hPR9 => ?_
      have T9 := hT.set ht hP (by omega) hq hr ha1 g9 hPR9 (rnd_len q).1 (rnd_len q).2
      have P9 : Pool M9 := hP.ag g9 (fun u hu => by have := TL_facts u hu; omega)
      have F9 : Fr (fun _ => False) t M M9 := Fr.ofAg g9 (fun b hb => Or.inr (Or.inr ⟨p, by omega, by rw [hb]; exact hr⟩)) (by have := TL_facts t ht; omega)
      have gl : (GT (l.set p (rnd q))).length = (GT l).length := by
        have := GT_len_set (q' := rnd q) hq
        rw [mq_rows rl1 rl2] at this; omega
      have hc9 : CI M9 r E (l.set p (rnd q)) Y mk_ an w lk := hc.set f8 hC F9 P9 T9 (by rw [gl]; exact c7)
      have hm9 := fr_m ht h12 F9 P9 hm
      have hwl : WF (n + 1) r E (l.set p (rnd q)) Y mk_ an w lk := hw.set hn hq (WL_sub hw.2.2.2.1 hq (pgd_rnd hgd h1) (fun x hx => by rw [← vals_rows rl1 rl2]; exact hx) (by unfold kf; rw [rl1]) (fun t ht => by rw [← rl2]; exact ht)) (by unfold kf; rw [rl1]) (by rw [rl2]; exact hw.2.2.2.2.1 q (List.mem_of_getElem? hq)) (by rw [gl]; exact hw.2.2.2.2.2.1) ⟨by rw [rl1], by rw [rl2, gl]; omega⟩
      have k9 := g9.k0 hk
      have mod : ∀ u : Int, (u = if gm (asKind 2 q) ≤ pma q then 1 else 0) → sp_X5_round 69 x M9 (Fin_ n u) := by
        intro u hu
        have m23' := m23_iff hm9.1.2.2.2.1
        have hP9 := hm9.2.2.1 p q (by rw [List.flatten_cons, List.getElem?_append_left hlt]; exact hq)
        rw [List.flatten_cons, List.take_append_of_le_length (by omega)] at hP9
        unfold sp_X5_round
        refine ⟨iO_c k9 (by decide) rfl, fun h0 => absurd (m23'.mp h0) he, fun _ => ⟨fun h => by omega, fun _ => ?_⟩⟩
        unfold sp_X5_pieces
        refine ⟨iO_c k9 (by decide) rfl, by omega, ?_⟩
        dsimp only
        rw [(lv73 hm9.2.2.2.1).2, show x.toNat = p by omega, hP9.1.1]
        refine ⟨fun _ => ⟨by omega, fun _ => ⟨by omega, ?_⟩, fun h' => absurd h1 h'⟩, fun h => by omega⟩
        rintro M3 rfl
        have g3 : Ag (fun b => b = 69 ∨ b = 74) M9 (pI M9 74 p 2) := (Ag.refl (S := fun b => b = 69 ∨ b = 74)).pI (Or.inr rfl)
        have A3 : MA (pI M9 74 p 2) ((l :: Y).flatten.set p (asKind 2 q)) := hm9.2.2.1.setK (q := q) (q' := asKind 2 q) (by rw [List.flatten_cons, List.getElem?_append_left hlt]; exact hq) ⟨rfl, rfl, rfl⟩ g3 (fun g hg => by simp [gI_pI, gI_pL, gI_pD, gI_pR, gI_pnw, gI_pcp, gL_pI, gL_pL, gL_pD, gL_pR, gL_pnw, gL_pcp, gD_pI, gD_pL, gD_pD, gD_pR, gD_pnw, gD_pcp, gR_pI, gR_pL, gR_pD, gR_pR, gR_pnw, gR_pcp, gz_pI, gz_pL, gz_pD, gz_pR, gz_pnw, gz_pcp, hg]) (by simp [gI_pI, gI_pL, gI_pD, gI_pR, gI_pnw, gI_pcp, gL_pI, gL_pL, gL_pD, gL_pR, gL_pnw, gL_pcp, gD_pI, gD_pL, gD_pD, gD_pR, gD_pnw, gD_pcp, gR_pI, gR_pL, gR_pD, gR_pR, gR_pnw, gR_pcp, gz_pI, gz_pL, gz_pD, gz_pR, gz_pnw, gz_pcp]; rfl)
        have hPa : MP (pI M9 74 p 2) p (ksum (l.take p)) (asKind 2 q) := by
          have := A3 p (asKind 2 q) (List.getElem?_set_self (by rw [List.flatten_cons, List.length_append]; omega))
          rw [← flat_set hlt, List.flatten_cons, List.take_append_of_le_length (by rw [List.length_set]; omega), ksum_take_set (q' := asKind 2 q) hq rfl] at this
          exact this
        have k3 := g3.k0 k9
        rw [hp]
        refine d_miss k3 (by omega) hPa (by show ksum (l.take p) + (pks q).length ≤ 12000; omega) hok.1 (Or.inr (Or.inr rfl)) hok.2.2.1 ⟨by omega, fun hgt => ⟨by omega, ?_⟩, fun hle => ?_⟩
        · rw [hPa.1.2.2.2.1] at hgt
          have hgt : pma q < gm (asKind 2 q) := hgt
          rintro M6 rfl
          have er : rnd q = asKind 1 q := by unfold rnd; rw [if_neg (by omega)]
          rw [er] at hwl hc9
          have g6 : Ag (fun b => b = 69 ∨ b = 74) (pI M9 74 p 2) (pI (pI M9 74 p 2) 74 p 1) := (Ag.refl (S := fun b => b = 69 ∨ b = 74)).pI (Or.inr rfl)
          have A6 : MA (pI (pI M9 74 p 2) 74 p 1) (((l :: Y).flatten.set p (asKind 2 q)).set p (asKind 1 q)) := A3.setK (q := asKind 2 q) (q' := asKind 1 q) (List.getElem?_set_self (by rw [List.flatten_cons, List.length_append]; omega)) ⟨rfl, rfl, rfl⟩ g6 (fun g hg => by simp [gI_pI, gI_pL, gI_pD, gI_pR, gI_pnw, gI_pcp, gL_pI, gL_pL, gL_pD, gL_pR, gL_pnw, gL_pcp, gD_pI, gD_pL, gD_pD, gD_pR, gD_pnw, gD_pcp, gR_pI, gR_pL, gR_pD, gR_pR, gR_pnw, gR_pcp, gz_pI, gz_pL, gz_pD, gz_pR, gz_pnw, gz_pcp, hg]) (by simp [gI_pI, gI_pL, gI_pD, gI_pR, gI_pnw, gI_pcp, gL_pI, gL_pL, gL_pD, gL_pR, gL_pnw, gL_pcp, gD_pI, gD_pL, gD_pD, gD_pR, gD_pnw, gD_pcp, gR_pI, gR_pL, gR_pD, gR_pR, gR_pnw, gR_pcp, gz_pI, gz_pL, gz_pD, gz_pR, gz_pnw, gz_pcp]; rfl)
          rw [List.set_set, ← flat_set hlt] at A6
          have gg := (g3.trans g6).mono (S' := fun b => AgR b ∨ b = 95) (fun b hb => Or.inl (by unfold AgR; omega))
          refine ⟨by rw [hu, if_neg (by omega)], r, E, l.set p (asKind 1 q), Y, mk_, an, w, lk, hc9.ag gg (fun b hb => by unfold AgR at hb; omega), hm9.anew gg (fun j _ => rfl) hm9.1.2.2.1 ?_ hm9.1.2.2.2.2.1 hm9.1.2.2.2.2.2.1 A6 ?_, hwl⟩
          · have hne : l.set p (asKind 1 q) ≠ [] := fun e => he (by have := congrArg List.length e; rw [List.length_set] at this; exact List.eq_nil_of_length_eq_zero this)
            rw [if_neg hne]
            have := hm9.1.2.2.2.1
            rw [if_neg he] at this
            exact this
          · exact (hm9.2.2.2.1.ag (g3.trans g6) (by omega) (by omega)).set
        · rw [hPa.1.2.2.2.1] at hle
          have hle : gm (asKind 2 q) ≤ pma q := hle
          have er : rnd q = asKind 2 q := by unfold rnd; rw [if_pos hle]
          rw [er] at hwl hc9
          rw [← flat_set hlt] at A3
          have gg := g3.mono (S' := fun b => AgR b ∨ b = 95) (fun b hb => Or.inl (by unfold AgR; omega))
          refine ⟨by rw [hu, if_pos hle], r, E, l.set p (asKind 2 q), Y, mk_, an, w, lk, hc9.ag gg (fun b hb => by unfold AgR at hb; omega), hm9.anew gg (fun j _ => rfl) hm9.1.2.2.1 ?_ hm9.1.2.2.2.2.1 hm9.1.2.2.2.2.2.1 A3 ?_, hwl⟩
          · have hne : l.set p (asKind 2 q) ≠ [] := fun e => he (by have := congrArg List.length e; rw [List.length_set] at this; exact List.eq_nil_of_length_eq_zero this)
            rw [if_neg hne]
            have := hm9.1.2.2.2.1
            rw [if_neg he] at this
            exact this
          · exact (hm9.2.2.2.1.ag g3 (by omega) (by omega)).set
      by_cases c : gm (asKind 2 q) ≤ pma q
      · rw [if_pos c]
        exact ⟨fun h => by omega, fun _ => mod 1 (by rw [if_pos c])⟩
      · rw [if_neg c]
        exact ⟨fun _ => mod 0 (by rw [if_neg c]), fun h => absurd rfl h⟩
    · unfold sp_X5_round
      refine ⟨iO_c hk (by decide) rfl, fun h0 => absurd (m23.mp h0) he, fun _ => ⟨fun h => by omega, fun _ => ?_⟩⟩
      unfold sp_X5_pieces
      refine ⟨iO_c hk (by decide) rfl, by omega, ?_⟩
      dsimp only
      rw [(lv73 hm.2.2.2.1).2, show x.toNat = p by omega, hP0.1.1]
      exact ⟨fun _ => ⟨by omega, fun h' => absurd h' h1, fun _ => ⟨rfl, G⟩⟩, fun h => by omega⟩
  · unfold sp_X5_round
    refine ⟨iO_c hk (by decide) rfl, fun _ => ⟨rfl, G⟩, fun _ => ⟨fun _ => ⟨rfl, G⟩, fun hx => ?_⟩⟩
    unfold sp_X5_pieces
    refine ⟨iO_c hk (by decide) rfl, by omega, ?_⟩
    rw [(lv73 hm.2.2.2.1).2]
    exact ⟨fun h' => absurd ⟨hx, h'⟩ h, fun _ => ⟨rfl, G⟩⟩
