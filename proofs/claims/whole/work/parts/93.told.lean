/-! ===== what is told: layers, pieces, piece, line, guess, key, looks, told, count ===== -/
def Fin_ (n : Nat) (z z' : Int) (M : Im) : Prop := z = z' ∧ Good (n + 1) M
/-- no such piece -/
def noP (l : List Pc) (Y : List (List Pc)) (x z : Int) : Prop := l = [] ∨ x < -1 ∨ (Y.length : Int) ≤ x ∨ ∃ (n : Nat) (y : List Pc), x = (n : Int) - 1 ∧ (l :: Y)[n]? = some y ∧ (z < 0 ∨ (y.length : Int) ≤ z)
theorem d_piece0 {M : Im} {r : List Int} {E : Int} {l : List Pc} {Y : List (List Pc)} {mk_ an : Int} {w : List Int} {lk n0 : Nat} {x z : Int} {Q : Int → Im → Prop} (hk : K0 ≤ gz M) (hm : MI M r E l Y mk_ an w lk) (hw : WF n0 r E l Y mk_ an w lk) (h : noP l Y x z) (hQ : Q (-1) M) : sp_X5_pieceOf 69 x z M Q := by
  refine d_pieceOf hk hm hw (fun n y p q g fr hx hz hn hy hq _ _ _ _ => ?_) (fun _ => hQ)
  have h1 := (List.getElem?_eq_some_iff.mp hy).1
  have h2 := (List.getElem?_eq_some_iff.mp hq).1
  simp only [List.length_cons] at h1
  rcases h with h | h | h | ⟨n', y', h3, h4, h5⟩
  · exact absurd h hn
  · omega
  · omega
  · obtain rfl : n' = n := by omega
    rw [hy] at h4
    cases h4
    omega
theorem d_piece1 {M : Im} {r : List Int} {E : Int} {l : List Pc} {Y : List (List Pc)} {mk_ an : Int} {w : List Int} {lk n0 : Nat} {x z : Int} {Q : Int → Im → Prop} (hk : K0 ≤ gz M) (hm : MI M r E l Y mk_ an w lk) (hw : WF n0 r E l Y mk_ an w lk) {n p : Nat} {y : List Pc} {q : Pc} (hx : x = (n : Int) - 1) (hz : z = (p : Int)) (hn : l ≠ []) (hy : (l :: Y)[n]? = some y) (hq : y[p]? = some q)
    (hQ : ∀ g fr : Nat, MP M g fr q → g < 10000 → fr + (pks q).length ≤ 12000 → pok q → Q (g : Int) M) : sp_X5_pieceOf 69 x z M Q := by
  have h1 := (List.getElem?_eq_some_iff.mp hy).1
  have h2 := (List.getElem?_eq_some_iff.mp hq).1
  simp only [List.length_cons] at h1
  refine d_pieceOf hk hm hw (fun n' y' p' q' g fr hx' hz' _ hy' hq' a b c d => ?_) (fun h => ?_)
  · obtain rfl : n' = n := by omega
    rw [hy] at hy'
    cases hy'
    obtain rfl : p' = p := by omega
    rw [hq] at hq'
    cases hq'
    exact hQ g fr a b c d
  · exfalso
    rcases h with h | h | h | ⟨n', y', h3, h4, h5⟩
    · exact hn h
    · omega
    · omega
    · obtain rfl : n' = n := by omega
      rw [hy] at h4
      cases h4
      omega
/-- a tier's piece in the class, if there is one -/
theorem c_at {M : Im} {r : List Int} {E : Int} {l : List Pc} {Y : List (List Pc)} {mk_ an : Int} {w : List Int} {lk n0 : Nat} {x z : Int} {Q : Option Nat → Option Nat → Im → Prop} (hc : CI M r E l Y mk_ an w lk) (hw : WF n0 r E l Y mk_ an w lk)
    (h1 : ∀ (n : Nat) (y : List Pc) (t p : Nat) (q : Pc) (a : Nat), x = (n : Int) - 1 → z = (p : Int) → l ≠ [] → (l :: Y)[n]? = some y → y[p]? = some q → t ∈ TL → 97 ≤ a → a < gz M → TR M t y → PR M t a (ksum (y.take p)) (tsum (y.take p)) q → ksum y ≤ cap t → pok q → Q (some t) (some a) M) (h0 : noP l Y x z → ∀ o, Q o none M) : sp_X4_tierOf 0 x M (fun (r14 : Option Nat) (M13 : Im) =>
  (r14 = none → Q none none M13) ∧ (∀ a15 : Nat, r14 = some a15 → iO M13 a15 2 ∧ sp_X2_pieceAt a15 z M13 (fun (r18 : Option Nat) (M17 : Im) => Q (some a15) r18 M17))) := by
  have hk := hc.1
  refine c_tierOf hc hw (fun n y t hx hn hy ht hT hl hK => ⟨fun h => (by cases h), fun a15 ha => ?_⟩) (fun h => ⟨fun _ => h0 ?_ none, fun a h => (by cases h)⟩)
  · cases ha
    refine ⟨TL_O ht hk, c_pieceAt hk ht hT hl (fun p q a hp hq ha1 ha2 hr hPR => ?_) (fun h => h0 (Or.inr (Or.inr (Or.inr ⟨n, y, hx, hy, by omega⟩))) _)⟩
    have hok := (hw.facts.2.2.2.2.2.2.1.2.2.2 _ _ hy _ (List.mem_of_getElem? hq)).1
    exact h1 n y t p q a hx hp hn hy hq ht ha1 ha2 hT hPR hK hok
  · rcases h with h | h | h
    · exact Or.inl h
    · exact Or.inr (Or.inl h)
    · exact Or.inr (Or.inr (Or.inl h))
theorem st_layers {n : Nat} {M : Im} (h : Good n M) (hn : n < 512) : sp_X4_layers 0 M (fun z M1 => sp_X5_layers 69 M1 (Fin_ n z)) := by
  obtain ⟨r, E, l, Y, mk_, an, w, lk, hc, hm, hw⟩ := h
  have G := Good.same hc hm hw hn
  obtain ⟨hk, hP, ⟨t, t', hC, hT⟩, hL, -⟩ := hc
  obtain ⟨⟨-, -, m9, m23, -⟩, -⟩ := hm
  unfold sp_X4_layers
  refine ⟨iO_c hk (by decide) rfl, c_hasIndex hk hC hT (fun he => ⟨fun h => by omega, fun _ => ?_⟩) (fun he => ⟨fun _ => ?_, fun h => absurd rfl h⟩)⟩
  · rw [if_neg he] at m23
    unfold sp_X5_layers
    rw [m23, m9, hL.1]
    exact ⟨iO_c hk (by decide) rfl, fun h => by omega, fun _ => ⟨rfl, G⟩⟩
  · rw [if_pos he] at m23
    unfold sp_X5_layers
    rw [m23]
    exact ⟨iO_c hk (by decide) rfl, fun _ => ⟨rfl, G⟩, fun h => absurd rfl h⟩
theorem st_pieces {n : Nat} {M : Im} (h : Good n M) (hn : n < 512) (x : Int) : sp_X4_pieces 0 x M (fun z M1 => sp_X5_pieces_ 69 x M1 (Fin_ n z)) := by
  have w72 : alen 72 = 20 := rfl
  have w73 : alen 73 = 20 := rfl
  obtain ⟨r, E, l, Y, mk_, an, w, lk, hc, hm, hw⟩ := h
  have G := Good.same hc hm hw hn
  have hk := hc.1
  obtain ⟨f1, f2, f3, f4, f5, f6, f7, f8, f9, f10⟩ := hw.facts
  obtain ⟨⟨-, -, m9, m23, -⟩, -, hA, hV, -⟩ := hm
  unfold sp_X4_pieces
  refine ⟨iO_c hk (by decide) rfl, c_tierOf hc hw (fun m y t hx he hy ht hT hl hK => ⟨fun h => (by cases h), fun a ha => ?_⟩) (fun h => ⟨fun _ => ?_, fun a h => (by cases h)⟩)⟩
  · cases ha
    have h1 := (List.getElem?_eq_some_iff.mp hy).1
    simp only [List.length_cons] at h1
    obtain ⟨v1, v2⟩ := hV _ _ hy
    rw [flat_take_succ hy, List.length_append] at v2
    have e : (l :: Y).flatten = ((l :: Y).take (m + 1)).flatten ++ ((l :: Y).drop (m + 1)).flatten := by rw [← List.flatten_append, List.take_append_drop]
    have el := congrArg List.length e
    rw [flat_take_succ hy, List.length_append, List.length_append] at el
    have fl := f7.2.1
    rw [if_neg he] at m23
    refine ⟨TL_O ht hk, ?_⟩
    rw [hT.2.2.1]
    unfold sp_X5_pieces_
    dsimp only
    rw [m23, m9, show (x + 1).toNat = m by omega, v1, v2, w72, w73]
    exact ⟨iO_c hk (by decide) rfl, fun h => by omega, fun _ => ⟨fun h => by omega, fun _ => ⟨fun _ => ⟨by omega, by omega, by omega, by omega, by omega, by omega, by omega, by omega, G⟩, fun h => by omega⟩⟩⟩
  · unfold sp_X5_pieces_
    dsimp only
    rw [m23, m9]
    refine ⟨iO_c hk (by decide) rfl, fun _ => ⟨rfl, G⟩, fun h23 => ⟨fun _ => ⟨rfl, G⟩, fun hx => ⟨fun hx2 => ?_, fun _ => ⟨rfl, G⟩⟩⟩⟩
    exfalso
    rcases h with h | h | h
    · exact h23 (by rw [if_pos h])
    · omega
    · omega
theorem dsum_le {q : Pc} (h : pok q) (i : Nat) (hi : i ≤ (pks q).length) : 0 ≤ dsum q i ∧ dsum q i ≤ i := dsum_bd h.2.2.2 i hi
theorem d_piece_75 {M : Im} {g fr : Nat} {q : Pc} {Q : Int → Im → Prop} {K114 : Int → Im → Prop} (hk : K0 ≤ gz M) (hg : g < 10000) (hP : MP M g fr q) (hfr : fr + (pks q).length ≤ 12000) (hq : pok q) (hK : K114 (dsum q (pks q).length) M) :
    ∀ (d i : Nat), i + d = (pks q).length → sp_X5_piece_75 (d + 1) 69 g (dsum q i) i M Q K114
  | 0, i, h => by
    have w76 : alen 76 = 10000 := rfl
    obtain rfl : i = (pks q).length := by omega
    unfold sp_X5_piece_75
    rw [show ((g : Nat) : Int).toNat = g by omega, hP.1.2.2.1, w76]
    exact ⟨by omega, fun _ => hK, fun h => by omega⟩
  | d + 1, i, h => by
    have w76 : alen 76 = 10000 := rfl
    have hl := hq.1.2.2
    have b := dsum_le hq i (by omega)
    have ih := d_piece_75 (Q := Q) hk hg hP hfr hq hK d (i + 1) (by omega)
    have e : dsum q (i + 1) = dsum q i + df q i := rfl
    have hd := hq.2.2.2 i (by omega)
    unfold sp_X5_piece_75
    rw [show ((g : Nat) : Int).toNat = g by omega, hP.1.2.2.1, w76]
    refine ⟨by omega, fun h => by omega, fun _ => ?_⟩
    have st : ∀ v : Int, v = df q i → sp_X5_piece_105 69 g i v (dsum q i) M Q (fun (x0 : Nat) (x4 : Int) (x5 : Int) (x6 : Int) (M : Im) => sp_X5_piece_75 (d + 1) x0 x4 x5 x6 M Q K114) K114 := by
      intro v hv
      unfold sp_X5_piece_105
      refine ⟨by omega, ?_⟩
      intro i3 h3
      refine ⟨by omega, ?_⟩
      rintro i4 rfl
      rw [h3, hv, ← e, show (i : Int) + 1 = ((i + 1 : Nat) : Int) by omega]
      exact ih
    exact d_isThere hk hg hP hfr (by omega) (fun h => ⟨fun w => by omega, fun _ => st 0 h.symm⟩) (fun h => ⟨fun _ => st 1 (by omega), fun w => absurd rfl w⟩)
theorem st_piece {n : Nat} {M : Im} (h : Good n M) (hn : n < 512) (x z v : Int) : sp_X4_piece 0 x z v M (fun u M1 => sp_X5_piece 69 x z v M1 (Fin_ n u)) := by
  have w74 : alen 74 = 10000 := rfl
  have w76 : alen 76 = 10000 := rfl
  have w77 : alen 77 = 10000 := rfl
  have w78 : alen 78 = 10000 := rfl
  obtain ⟨r, E, l, Y, mk_, an, w, lk, hc, hm, hw⟩ := h
  have G := Good.same hc hm hw hn
  have hk := hc.1
  unfold sp_X4_piece
  refine ⟨iO_c hk (by decide) rfl, ?_⟩
  refine c_at (Q := fun o r M => sp_X4_piece_22 v o r M (fun u M1 => sp_X5_piece 69 x z v M1 (Fin_ n u))) hc hw (fun m y t p q a hx hz he hy hq ht ha1 ha2 hT hPR hK hok => ?_) (fun h o => ?_)
  · have kin := ksum_in hq
    have mod : ∀ (u : Int), (∀ g fr : Nat, MP M g fr q → g < 10000 → fr + (pks q).length ≤ 12000 → (v = 0 → u = pki q) ∧ (v = 1 → u = (pks q).length) ∧ (v = 2 → u = dsum q (pks q).length) ∧ (v = 3 → u = (plt q).length) ∧ (v = 4 → u = pma q) ∧ (v = 5 → u = gm q) ∧ (¬ v = 0 → ¬ v = 1 → ¬ v = 2 → ¬ v = 3 → ¬ v = 4 → ¬ v = 5 → u = -1)) → sp_X5_piece 69 x z v M (Fin_ n u) := by
      intro u hu
      unfold sp_X5_piece
      refine ⟨iO_c hk (by decide) rfl, d_piece1 hk hm hw hx hz he hy hq fun g fr hP hg hfr _ => ⟨fun _ => ?_, fun h => by omega⟩⟩
      obtain ⟨u0, u1, u2, u3, u4, u5, u6⟩ := hu g fr hP hg hfr
      rw [show ((g : Nat) : Int).toNat = g by omega, hP.1.1, hP.1.2.2.1, hP.1.2.2.2.1, hP.1.2.2.2.2, w74, w76, w77, w78]
      refine ⟨fun h => ⟨by omega, u0 h, G⟩, fun h => ⟨by omega, u1 h, G⟩, fun h => ⟨(pks q).length + 1, ?_⟩, fun h => ⟨by omega, u3 h, G⟩, fun h => ⟨by omega, u4 h, G⟩, fun h => ?_, fun a b c d e f => ⟨u6 a b c d e f, G⟩⟩
      · exact d_piece_75 (Q := Fin_ n u) (K114 := fun x5 M => Fin_ n u x5 M) hk hg hP hfr hok ⟨u2 h, G⟩ (pks q).length 0 (by omega)
      · exact d_miss hk hg hP hfr hok.1 hok.2.1 hok.2.2.1 ⟨u5 h, G⟩
    unfold sp_X4_piece_22
    refine ⟨fun h => (by cases h), fun a1 h1 => ⟨fun h => (by cases h), fun a2 h2 => ?_⟩⟩
    cases h1
    cases h2
    rw [hPR.1.1, hPR.1.2.1, hPR.1.2.2.2.1, hPR.1.2.2.2.2.2]
    refine ⟨fun h => ⟨iO_hi ha1 ha2, mod _ fun _ _ _ _ _ => ?_⟩, fun h => ⟨iO_hi ha1 ha2, mod _ fun _ _ _ _ _ => ?_⟩, fun h => ⟨TL_O ht hk, c_countDropped hk ht ha1 ha2 hPR hT.1 kin hK hok.2.2.2 (mod _ fun _ _ _ _ _ => ?_)⟩, fun h => ⟨iO_hi ha1 ha2, mod _ fun _ _ _ _ _ => ?_⟩, fun h => ⟨iO_hi ha1 ha2, mod _ fun _ _ _ _ _ => ?_⟩, fun h => ⟨TL_O ht hk, c_greatestMiss hk ht ha1 ha2 hPR hT.1 kin hK hok.1 hok.2.1 hok.2.2.1 (mod _ fun _ _ _ _ _ => ?_)⟩, fun a b c d e f => mod _ fun _ _ _ _ _ => ?_⟩
    all_goals refine ⟨?_, ?_, ?_, ?_, ?_, ?_, ?_⟩ <;> intros <;> first | rfl | omega
  · have hz : sp_X5_piece 69 x z v M (Fin_ n (-1)) := by
      unfold sp_X5_piece
      exact ⟨iO_c hk (by decide) rfl, d_piece0 hk hm hw h ⟨fun h => by omega, fun _ => ⟨rfl, G⟩⟩⟩
    unfold sp_X4_piece_22
    exact ⟨fun _ => hz, fun a1 h1 => ⟨fun _ => hz, fun a2 h2 => (by cases h2)⟩⟩
theorem st_line {n : Nat} {M : Im} (h : Good n M) (hn : n < 512) (x z v : Int) : sp_X4_line 0 x z v M (fun u M1 => sp_X5_line 69 x z v M1 (Fin_ n u)) := by
  have w75 : alen 75 = 10000 := rfl
  have w76 : alen 76 = 10000 := rfl
  have w79 : alen 79 = 10000 := rfl
  have w80 : alen 80 = 10000 := rfl
  have w81 : alen 81 = 10000 := rfl
  have w82 : alen 82 = 12000 := rfl
  obtain ⟨r, E, l, Y, mk_, an, w, lk, hc, hm, hw⟩ := h
  have G := Good.same hc hm hw hn
  have hk := hc.1
  unfold sp_X4_line
  refine ⟨iO_c hk (by decide) rfl, ?_⟩
  refine c_at (Q := fun o r M => sp_X4_line_22 v o r M (fun u M1 => sp_X5_line 69 x z v M1 (Fin_ n u))) hc hw (fun m y t p q a hx hz he hy hq ht ha1 ha2 hT hPR hK hok => ?_) (fun h o => ?_)
  · have kin := ksum_in hq
    have hl0 := hok.1.2.1
    have hl1 := hok.1.2.2
    have mod : ∀ (u : Int), ((v = 0 → u = (pln q).1) ∧ (v = 1 → u = (pln q).2.1) ∧ (v = 2 → u = (pln q).2.2) ∧ (v = 3 → u = kf q 0) ∧ (v = 4 → u = kf q ((pks q).length - 1)) ∧ (¬ v = 0 → ¬ v = 1 → ¬ v = 2 → ¬ v = 3 → ¬ v = 4 → u = -9223372036854775808)) → sp_X5_line 69 x z v M (Fin_ n u) := by
      intro u hu
      unfold sp_X5_line
      refine ⟨iO_c hk (by decide) rfl, d_piece1 hk hm hw hx hz he hy hq fun g fr hP hg hfr _ => ⟨fun _ => ?_, fun h => by omega⟩⟩
      obtain ⟨u0, u1, u2, u3, u4, u6⟩ := hu
      have k0 := (hP.2.2.1 0 (by omega)).1
      have k1 := (hP.2.2.1 ((pks q).length - 1) (by omega)).1
      rw [Nat.add_zero] at k0
      rw [show ((g : Nat) : Int).toNat = g by omega, hP.1.2.1, hP.1.2.2.1, hP.2.1.1, hP.2.1.2.1, hP.2.1.2.2, show ((fr : Nat) : Int).toNat = fr by omega, show (((fr : Nat) : Int) + (((pks q).length : Nat) : Int) - 1).toNat = fr + ((pks q).length - 1) by omega, k0, k1, w75, w76, w79, w80, w81, w82]
      exact ⟨fun h => ⟨by omega, u0 h, G⟩, fun h => ⟨by omega, u1 h, G⟩, fun h => ⟨by omega, u2 h, G⟩, fun h => ⟨by omega, by omega, u3 h, G⟩, fun h => ⟨by omega, by omega, by omega, by omega, by omega, by omega, by omega, u4 h, G⟩, fun a b c d e => ⟨u6 a b c d e, G⟩⟩
    unfold sp_X4_line_22
    refine ⟨fun h => (by cases h), fun a1 h1 => ⟨fun h => (by cases h), fun a2 h2 => ?_⟩⟩
    cases h1
    cases h2
    rw [hPR.2.1.1, hPR.2.1.2.1, hPR.2.1.2.2, hPR.1.2.2.2.1]
    refine ⟨fun h => ⟨iO_hi ha1 ha2, mod _ ?_⟩, fun h => ⟨iO_hi ha1 ha2, mod _ ?_⟩, fun h => ⟨iO_hi ha1 ha2, mod _ ?_⟩, fun h => ⟨TL_O ht hk, c_keyOf hk ht ha1 ha2 hPR hT.1 kin hK (fun i hi hi2 => mod _ ?_) (fun h => absurd (by omega) h)⟩, fun h => ⟨iO_hi ha1 ha2, TL_O ht hk, by omega, c_keyOf hk ht ha1 ha2 hPR hT.1 kin hK (fun i hi hi2 => mod _ ?_) (fun h => absurd (by omega) h)⟩, fun a b c d e => mod _ ?_⟩
    · refine ⟨?_, ?_, ?_, ?_, ?_, ?_⟩ <;> intros <;> first | rfl | omega
    · refine ⟨?_, ?_, ?_, ?_, ?_, ?_⟩ <;> intros <;> first | rfl | omega
    · refine ⟨?_, ?_, ?_, ?_, ?_, ?_⟩ <;> intros <;> first | rfl | omega
    · obtain rfl : i = 0 := by omega
      refine ⟨?_, ?_, ?_, ?_, ?_, ?_⟩ <;> intros <;> first | rfl | omega
    · obtain rfl : i = (pks q).length - 1 := by omega
      refine ⟨?_, ?_, ?_, ?_, ?_, ?_⟩ <;> intros <;> first | rfl | omega
    · refine ⟨?_, ?_, ?_, ?_, ?_, ?_⟩ <;> intros <;> first | rfl | omega
  · have hz : sp_X5_line 69 x z v M (Fin_ n (-9223372036854775808)) := by
      unfold sp_X5_line
      exact ⟨iO_c hk (by decide) rfl, d_piece0 hk hm hw h ⟨fun h => by omega, fun _ => ⟨rfl, G⟩⟩⟩
    unfold sp_X4_line_22
    exact ⟨fun _ => hz, fun a1 h1 => ⟨fun _ => hz, fun a2 h2 => (by cases h2)⟩⟩
theorem st_guess {n : Nat} {M : Im} (h : Good n M) (hn : n < 512) (x z v : Int) : sp_X4_guess 0 x z v M (fun u M1 => sp_X5_guess 69 x z v M1 (Fin_ n u)) := by
  obtain ⟨r, E, l, Y, mk_, an, w, lk, hc, hm, hw⟩ := h
  have G := Good.same hc hm hw hn
  have hk := hc.1
  unfold sp_X4_guess
  refine ⟨iO_c hk (by decide) rfl, ?_⟩
  refine c_at (Q := fun o r M => sp_X4_guess_22 v o r M (fun u M1 => sp_X5_guess 69 x z v M1 (Fin_ n u))) hc hw (fun m y t p q a hx hz he hy hq ht ha1 ha2 hT hPR hK hok => ?_) (fun h o => ?_)
  · have kin := ksum_in hq
    have hl0 := hok.1.2.1
    have hb := hok.2.2.1 0 (by omega)
    unfold sp_X4_guess_22
    refine ⟨fun h => (by cases h), fun a1 h1 => ⟨fun h => (by cases h), fun a2 h2 => ?_⟩⟩
    cases h1
    cases h2
    refine c_isKey (fun hv => ⟨fun h => (by omega), fun _ => ⟨TL_O ht hk, ?_⟩⟩) (fun hv => ⟨fun _ => ?_, fun h => absurd rfl h⟩)
    · have hv' := hv
      unfold inR at hv'
      refine c_keyOf hk ht ha1 ha2 hPR hT.1 kin hK (fun i hi hi2 => ?_) (fun h => absurd (by omega) h)
      obtain rfl : i = 0 := by omega
      refine ⟨iO_hi ha1 ha2, by omega, c_guessAway ha1 ha2 hPR hok.1 hok.2.1 (by omega) ?_⟩
      unfold sp_X5_guess
      refine ⟨iO_c hk (by decide) rfl, d_piece1 hk hm hw hx hz he hy hq fun g fr hP hg hfr _ => ⟨fun _ => ?_, fun h => by omega⟩⟩
      refine d_isKey hk (fun _ => ⟨fun h => (by omega), fun _ => ?_⟩) (fun h => absurd hv h)
      exact d_guessOf hk hg hP hfr hok.1 hok.2.1 (by omega) ⟨rfl, G⟩
    · unfold sp_X5_guess
      refine ⟨iO_c hk (by decide) rfl, d_piece1 hk hm hw hx hz he hy hq fun g fr hP hg hfr _ => ⟨fun _ => ?_, fun h => by omega⟩⟩
      exact d_isKey hk (fun h => absurd h hv) (fun _ => ⟨fun _ => ⟨rfl, G⟩, fun h => absurd rfl h⟩)
  · have hz : sp_X5_guess 69 x z v M (Fin_ n (-1)) := by
      unfold sp_X5_guess
      exact ⟨iO_c hk (by decide) rfl, d_piece0 hk hm hw h ⟨fun h => by omega, fun _ => ⟨rfl, G⟩⟩⟩
    unfold sp_X4_guess_22
    exact ⟨fun _ => hz, fun a1 h1 => ⟨fun _ => hz, fun a2 h2 => (by cases h2)⟩⟩
theorem st_key {n : Nat} {M : Im} (h : Good n M) (hn : n < 512) (z i v : Int) (hv : v = 0 ∨ v = 1) : sp_X4_key 0 z i v M (fun u M1 => sp_X5_key 69 z i v M1 (Fin_ n u)) := by
  have w75 : alen 75 = 10000 := rfl
  have w76 : alen 76 = 10000 := rfl
  have w78 : alen 78 = 10000 := rfl
  have w82 : alen 82 = 12000 := rfl
  have w83 : alen 83 = 160000 := rfl
  obtain ⟨r, E, l, Y, mk_, an, w, lk, hc, hm, hw⟩ := h
  have G := Good.same hc hm hw hn
  obtain ⟨f1, f2, f3, f4, f5, f6, f7, f8, f9, f10⟩ := hw.facts
  obtain ⟨hk, hP, ⟨t, t', hC, hT⟩, hL, -⟩ := hc
  obtain ⟨ht, ht', -, -, -, hcap, -, h300, -⟩ := hC.TL
  unfold sp_X4_key
  refine ⟨iO_c hk (by decide) rfl, ?_⟩
  rintro r1 rfl
  refine ⟨t, hC.2.1, TL_O ht hk, ?_⟩
  refine c_pieceAt hk ht hT (by omega) (fun p q a hp hq ha1 ha2 hr hPR => ⟨fun h => (by cases h), fun a5 h5 => ?_⟩) (fun h => ⟨fun _ => ?_, fun a h => (by cases h)⟩)
  · cases h5
    have kin := ksum_in hq
    have tin := tsum_in hq
    have hmem := List.mem_of_getElem? hq
    have hok := (f5 q hmem).1
    have hl15 := hw.2.2.2.2.1 q hmem
    have he : l ≠ [] := fun e => by rw [e] at hq; simp at hq
    have hl1 := hok.1.2.2
    have mod : ∀ (u : Int), (0 ≤ i → v = 0 → i < (pks q).length → u = kf q i.toNat) → (0 ≤ i → v = 1 → i < (plt q).length → u = tf q i.toNat) → (i < 0 ∨ (v = 0 ∧ ((pks q).length : Int) ≤ i) ∨ (v = 1 ∧ ((plt q).length : Int) ≤ i) → u = -9223372036854775808) → sp_X5_key 69 z i v M (Fin_ n u) := by
      intro u h1 h2 h3
      unfold sp_X5_key
      refine ⟨iO_c hk (by decide) rfl, d_piece1 (n := 0) (y := l) hk hm hw (by omega) hp he rfl hq fun g fr hP hg hfr _ => ⟨fun h => (by omega), fun _ => ⟨fun h => ⟨h3 (by omega), G⟩, fun hi => ?_⟩⟩⟩
      rw [show ((g : Nat) : Int).toNat = g by omega, hP.1.2.2.1, hP.1.2.2.2.2, w76, w78]
      refine ⟨fun h => ⟨by omega, ?_⟩, fun h => ⟨by omega, ?_⟩⟩
      · unfold sp_X5_key_39
        rw [show ((g : Nat) : Int).toNat = g by omega, hP.1.2.1, w75, w82]
        refine ⟨fun hlt => ⟨fun _ => ⟨by omega, by omega, by omega, by omega, ?_⟩, fun h' => absurd h h'⟩, fun hge => ⟨h3 (by omega), G⟩⟩
        rw [show (((fr : Nat) : Int) + i).toNat = fr + i.toNat by omega, (hP.2.2.1 i.toNat (by omega)).1]
        exact ⟨h1 hi h hlt, G⟩
      · unfold sp_X5_key_39
        rw [w83]
        refine ⟨fun hlt => ⟨fun h' => absurd h' h, fun _ => ⟨by omega, by omega, by omega, by omega, by omega, ?_⟩⟩, fun hge => ⟨h3 (by omega), G⟩⟩
        rw [show (16 * ((g : Nat) : Int) + i).toNat = 16 * g + i.toNat by omega, hP.2.2.2 i.toNat (by omega)]
        exact ⟨h2 hi (by omega) hlt, G⟩
    refine ⟨fun h => ?_, fun h => ?_⟩
    · rintro r6 rfl
      refine ⟨t, hC.2.1, TL_O ht hk, c_keyOf hk ht ha1 ha2 hPR hT.1 kin (by omega) (fun j hj hj2 => mod _ (fun _ _ _ => by rw [hj]; rfl) (fun _ h' => by omega) (fun h' => by omega)) (fun h' => mod _ (fun a b c => absurd ⟨a, c⟩ h') (fun _ h'' => by omega) (fun _ => rfl))⟩
    · rintro r10 rfl
      refine ⟨t, hC.2.1, TL_O ht hk, c_lateOf hk ht ha1 ha2 hPR hT.2.1 tin (by omega) (fun j hj hj2 => mod _ (fun _ h' => by omega) (fun _ _ _ => by rw [hj]; rfl) (fun h' => by omega)) (fun h' => mod _ (fun _ h'' => by omega) (fun a b c => absurd ⟨a, c⟩ h') (fun _ => rfl))⟩
  · have hno : noP l Y (-1) z := Or.inr (Or.inr (Or.inr ⟨0, l, by omega, rfl, by omega⟩))
    unfold sp_X5_key
    exact ⟨iO_c hk (by decide) rfl, d_piece0 hk hm hw hno ⟨fun _ => ⟨rfl, G⟩, fun h => by omega⟩⟩
theorem st_looks {n : Nat} {M : Im} (h : Good n M) (hn : n < 512) : sp_X4_looks 0 M (fun z M1 => sp_X5_looks 69 M1 (Fin_ n z)) := by
  obtain ⟨r, E, l, Y, mk_, an, w, lk, hc, hm, hw⟩ := h
  have G := Good.same hc hm hw hn
  obtain ⟨hk, -, -, -, -, -, -, h13⟩ := hc
  obtain ⟨⟨-, -, -, -, -, -, -, m42, -⟩, -⟩ := hm
  unfold sp_X4_looks sp_X5_looks
  dsimp only
  rw [h13, m42]
  exact ⟨iO_c hk (by decide) rfl, iO_c hk (by decide) rfl, rfl, G⟩
theorem st_told {n : Nat} {M : Im} (h : Good n M) (hn : n < 512) (i : Int) : sp_X4_told 0 i M (fun z M1 => sp_X5_told 69 i M1 (Fin_ n z)) := by
  have w96 : alen 96 = 64 := rfl
  have w14 : alen (13 + 1) = 34 := rfl
  obtain ⟨r, E, l, Y, mk_, an, w, lk, hc, hm, hw⟩ := h
  have G := Good.same hc hm hw hn
  have hwl := hw.2.2.2.2.2.2.2.2.2.2.1
  obtain ⟨hk, -, -, -, -, -, ⟨h1, h2⟩, -⟩ := hc
  obtain ⟨⟨-, -, -, -, -, -, m40, -, -⟩, -, -, -, m96⟩ := hm
  unfold sp_X4_told
  rw [h1, w14]
  have neg : (i < 0 ∨ (w.length : Int) ≤ i) → sp_X5_told 69 i M (Fin_ n (-2)) := fun h => by
    unfold sp_X5_told
    rw [m40, w96]
    exact ⟨iO_c hk (by decide) rfl, fun _ => ⟨rfl, G⟩, fun _ => ⟨fun h' => by omega, fun _ => ⟨rfl, G⟩⟩⟩
  refine ⟨iO_c hk (by decide) rfl, fun h => neg (Or.inl h), fun h => ⟨fun h' => neg (Or.inr h'), fun h' => ⟨by omega, ?_⟩⟩⟩
  have e := List.getElem?_eq_getElem (l := w) (i := i.toNat) (by omega)
  unfold sp_X5_told
  dsimp only
  rw [m40, w96, h2 _ _ e, m96 _ _ e]
  exact ⟨iO_c hk (by decide) rfl, fun h => by omega, fun _ => ⟨fun _ => ⟨by omega, rfl, G⟩, fun h => by omega⟩⟩
theorem flat_pre (l : List Pc) (Y : List (List Pc)) : l <+: (l :: Y).flatten := ⟨Y.flatten, by rw [List.flatten_cons]⟩
theorem lv73 {M : Im} {l : List Pc} {Y : List (List Pc)} (h : MLv M (l :: Y)) : gI M 72 0 = 0 ∧ gI M 73 0 = l.length := by
  obtain ⟨a, b⟩ := h 0 l rfl
  exact ⟨by simpa using a, by simpa using b⟩
theorem st_count {n : Nat} {M : Im} (h : Good n M) (hn : n < 512) (v : Int) : sp_X4_count 0 v M (fun z M1 => sp_X5_count 69 v M1 (Fin_ n z)) := by
  obtain ⟨r, E, l, Y, mk_, an, w, lk, hc, hm, hw⟩ := h
  have G := Good.same hc hm hw hn
  obtain ⟨f1, f2, f3, f4, f5, f6, f7, f8, f9, f10⟩ := hw.facts
  obtain ⟨hk, -, -, -, ⟨c1, c2, c7, c8, c9⟩, -⟩ := hc
  obtain ⟨⟨m1, m2, m9, m23, m24, m25, -⟩, -, hA, hV, -⟩ := hm
  have mod : ∀ u : Int, (v = 0 → u = r.length) → (v = 1 → u = E) → (v = 2 → u = (GT l).length) → (v = 3 → u = mk_) → (v = 4 → u = an) → (¬ v = 0 → ¬ v = 1 → ¬ v = 2 → ¬ v = 3 → ¬ v = 4 → u = -1) → sp_X5_count 69 v M (Fin_ n u) := by
    intro u u0 u1 u2 u3 u4 u5
    unfold sp_X5_count
    rw [m1, m2, m24, m25]
    exact ⟨iO_c hk (by decide) rfl, fun h => ⟨u0 h, G⟩, fun h => ⟨u1 h, G⟩, fun h => d_there hk hA (flat_pre l Y) (by omega) (by omega) (by omega) m23 (lv73 hV).2 ⟨u2 h, G⟩, fun h => ⟨u3 h, G⟩, fun h => ⟨u4 h, G⟩, fun a b c d e => ⟨u5 a b c d e, G⟩⟩
  unfold sp_X4_count
  rw [c1, c2, c7, c8, c9]
  refine ⟨iO_c hk (by decide) rfl, fun h => mod _ ?_ ?_ ?_ ?_ ?_ ?_, fun h => mod _ ?_ ?_ ?_ ?_ ?_ ?_, fun h => mod _ ?_ ?_ ?_ ?_ ?_ ?_, fun h => mod _ ?_ ?_ ?_ ?_ ?_ ?_, fun h => mod _ ?_ ?_ ?_ ?_ ?_ ?_, fun a b c d e => mod _ ?_ ?_ ?_ ?_ ?_ ?_⟩
  all_goals intros <;> first | rfl | omega
