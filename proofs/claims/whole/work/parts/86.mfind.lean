/-! ===== the model's find ===== -/
/-- what the model's way holds -/
def WW (M : Im) (w : List Int) : Prop := gI M 69 39 = w.length ∧ ∀ j v, w[j]? = some v → gI M 95 j = v
def AgF (b : Nat) : Prop := b = 69 ∨ b = 95
theorem d_say {M : Im} {w : List Int} {v : Int} {Q : Im → Prop} (hk : K0 ≤ gz M) (hw : WW M w) (hl : w.length < 64)
    (hQ : ∀ M', Ag AgF M M' → (∀ j, j ≠ 39 → gI M' 69 j = gI M 69 j) → WW M' (w ++ [v]) → Q M') : sp_X5_say 69 v M Q := by
  have w95 : alen 95 = 64 := rfl
  obtain ⟨h1, h2⟩ := hw
  unfold sp_X5_say
  rw [h1, w95, show ((w.length : Nat) : Int).toNat = w.length by omega]
  refine ⟨iO_c hk (by decide) rfl, by omega, ?_⟩
  rintro M1 rfl
  have e : gI (pI M 95 w.length v) 69 39 = w.length := h1
  rw [e]
  refine ⟨by omega, ?_⟩
  rintro M2 rfl
  refine hQ _ (((Ag.refl (S := AgF)).pI (Or.inr rfl)).pI (Or.inl rfl)) (fun j hj => ?_) ⟨?_, fun j x hx => ?_⟩
  · simp [gI_pI, gI_pL, gI_pD, gI_pR, gI_pnw, gI_pcp, gL_pI, gL_pL, gL_pD, gL_pR, gL_pnw, gL_pcp, gD_pI, gD_pL, gD_pD, gD_pR, gD_pnw, gD_pcp, gR_pI, gR_pL, gR_pD, gR_pR, gR_pnw, gR_pcp, gz_pI, gz_pL, gz_pD, gz_pR, gz_pnw, gz_pcp, hj]
  · simp [gI_pI, gI_pL, gI_pD, gI_pR, gI_pnw, gI_pcp, gL_pI, gL_pL, gL_pD, gL_pR, gL_pnw, gL_pcp, gD_pI, gD_pL, gD_pD, gD_pR, gD_pnw, gD_pcp, gR_pI, gR_pL, gR_pD, gR_pR, gR_pnw, gR_pcp, gz_pI, gz_pL, gz_pD, gz_pR, gz_pnw, gz_pcp]
  · simp only [gI_pI, gI_pL, gI_pD, gI_pR, gI_pnw, gI_pcp, gL_pI, gL_pL, gL_pD, gL_pR, gL_pnw, gL_pcp, gD_pI, gD_pL, gD_pD, gD_pR, gD_pnw, gD_pcp, gR_pI, gR_pL, gR_pD, gR_pR, gR_pnw, gR_pcp, gz_pI, gz_pL, gz_pD, gz_pR, gz_pnw, gz_pcp]
    rw [if_neg (by omega)]
    rcases Nat.lt_or_ge j w.length with hj | hj
    · rw [List.getElem?_append_left hj] at hx
      rw [if_neg (by omega)]
      exact h2 j x hx
    · rw [List.getElem?_append_right hj] at hx
      have : j - w.length = 0 := by
        have := (List.getElem?_eq_some_iff.mp hx).1
        simp at this; omega
      rw [this] at hx
      simp at hx
      rw [if_pos ⟨trivial, by omega⟩]
      exact hx
theorem d_down_62 {g fr lev : Nat} {k gu : Int} {q : Pc} {Q : Int → Im → Prop} {K125 : Nat → Int → Int → Int → Int → Im → Prop} (hg : g < 10000) (hfr : fr + (pks q).length ≤ 12000) :
    ∀ (i : Nat) {M : Im} {lk : Nat}, i < (pks q).length → MP M g fr q → gI M 69 41 = (lk : Nat) → lk + i ≤ 200000 → (∀ M', Ag (· = 69) M M' → (∀ j, j ≠ 41 → gI M' 69 j = gI M 69 j) → gI M' 69 41 = ((lk + (scan (kf q) k i).2 : Nat) : Int) → K125 69 g lev gu (scan (kf q) k i).1 M') →
    sp_X5_down_62 (i + 2) 69 g lev k gu i (if i = 0 then 0 else 1) M Q K125
  | 0, M, lk, hi, hP, h41, hlk, hQ => by
    unfold sp_X5_down_62
    rw [if_pos rfl]
    exact ⟨fun _ => hQ M Ag.refl (fun _ _ => rfl) h41, fun h => absurd rfl h⟩
  | i + 1, M, lk, hi, hP, h41, hlk, hQ => by
    have w75 : alen 75 = 10000 := rfl
    have w82 : alen 82 = 12000 := rfl
    unfold sp_X5_down_62
    rw [if_neg (show ¬ (i + 1 = 0) by omega), h41]
    refine ⟨fun h => by omega, fun _ => ⟨by omega, ?_⟩⟩
    rintro M1 rfl
    have g1 : Ag (· = 69) M (pI M 69 41 ((lk : Int) + 1)) := (Ag.refl (S := (· = 69))).pI rfl
    have e41 : gI (pI M 69 41 ((lk : Int) + 1)) 69 41 = ((lk + 1 : Nat) : Int) := by simp [gI_pI, gI_pL, gI_pD, gI_pR, gI_pnw, gI_pcp, gL_pI, gL_pL, gL_pD, gL_pR, gL_pnw, gL_pcp, gD_pI, gD_pL, gD_pD, gD_pR, gD_pnw, gD_pcp, gR_pI, gR_pL, gR_pD, gR_pR, gR_pnw, gR_pcp, gz_pI, gz_pL, gz_pD, gz_pR, gz_pnw, gz_pcp]
    have eo : ∀ j, j ≠ 41 → gI (pI M 69 41 ((lk : Int) + 1)) 69 j = gI M 69 j := fun j hj => by simp [gI_pI, gI_pL, gI_pD, gI_pR, gI_pnw, gI_pcp, gL_pI, gL_pL, gL_pD, gL_pR, gL_pnw, gL_pcp, gD_pI, gD_pL, gD_pD, gD_pR, gD_pnw, gD_pcp, gR_pI, gR_pL, gR_pD, gR_pR, gR_pnw, gR_pcp, gz_pI, gz_pL, gz_pD, gz_pR, gz_pnw, gz_pcp, hj]
    generalize pI M 69 41 ((lk : Int) + 1) = M1 at g1 e41 eo
    have P1 : MP M1 g fr q := hP.frame (fun b h1 h2 => g1.I (by omega) g) (fun b h1 h2 => g1.L (by omega) g) (fun i _ => ⟨g1.L (by omega) _, g1.I (by omega) _⟩) (fun i _ => g1.L (by omega) _)
    rw [show ((g : Nat) : Int).toNat = g by omega, P1.1.2.1, show ((fr : Nat) : Int) + ((i + 1 : Nat) : Int) = ((fr + (i + 1) : Nat) : Int) by omega, show ((fr + (i + 1) : Nat) : Int).toNat = fr + (i + 1) by omega, (P1.2.2.1 (i + 1) hi).1, w75, w82]
    unfold scan at hQ
    refine ⟨by omega, by omega, by omega, by omega, fun h => ?_, fun h => ⟨by omega, ?_⟩⟩
    · rw [if_neg (by omega)] at hQ
      unfold sp_X5_down_105
      refine ⟨fun _ => ?_, fun h => absurd rfl h⟩
      unfold sp_X5_down_119 sp_X5_down_120 sp_X5_down_62
      exact ⟨fun _ => hQ M1 g1 eo e41, fun h => absurd rfl h⟩
    · rw [if_pos h] at hQ
      rintro i2 rfl
      rw [show ((i + 1 : Nat) : Int) + -1 = ((i : Nat) : Int) by omega]
      have sl := scan_le (kf q) k i
      have nx := d_down_62 (lev := lev) (k := k) (gu := gu) (Q := Q) (K125 := K125) hg hfr i (M := M1) (lk := lk + 1) (by omega) P1 e41 (by omega) fun M' g2 o2 l2 => hQ M' (g1.trans g2) (fun j hj => (o2 j hj).trans (eo j hj)) (by rw [l2]; dsimp only; omega)
      unfold sp_X5_down_105
      refine ⟨fun h => by omega, fun _ => ⟨fun h0 => ?_, fun h0 => ?_⟩⟩
      · rw [if_pos (by omega)] at nx
        unfold sp_X5_down_119 sp_X5_down_120
        exact nx
      · rw [if_neg (by omega)] at nx
        unfold sp_X5_down_120
        exact nx
theorem d_down {M : Im} {g fr lev lk : Nat} {st p : Nat} {k : Int} {q : Pc} {w : List Int} {Q : Int → Im → Prop} (hk : K0 ≤ gz M) (hg : g < 10000) (hP : MP M g fr q) (hfr : fr + (pks q).length ≤ 12000) (hok : pok q) (hpm : pmo q) (hkk : -1000000000000 ≤ k ∧ k ≤ 1000000000000) (hlev : lev < 20) (h72 : gI M 72 lev = (st : Nat)) (hst : g = st + p)
    (hw : WW M w) (hwl : w.length + 3 ≤ 64) (h41 : gI M 69 41 = (lk : Nat)) (hlk : lk ≤ 100000)
    (hQ : ∀ M', Ag AgF M M' → (∀ j, j ≠ 39 → j ≠ 41 → gI M' 69 j = gI M 69 j) → gI M' 69 41 = ((lk + (dsc q k).2 : Nat) : Int) → WW M' (w ++ [(p : Int), dg q k, ((dsc q k).1 : Int)]) → Q ((dsc q k).1 : Nat) M') : sp_X5_down 69 g lev k M Q := by
  have w72 : alen 72 = 20 := rfl
  have w76 : alen 76 = 10000 := rfl
  have w77 : alen 77 = 10000 := rfl
  have hlen := hok.1.2.1
  have hlen2 := hok.1.2.2
  have hb := hok.2.2.1 0 (by omega)
  have gb := gs_bd hok.1 (k - kf q 0)
  have hpm' := hpm
  obtain ⟨pm1, pm2⟩ := hpm'
  obtain ⟨d1, d2⟩ := dst_lt (k := k) hok hpm
  have d2' : min (gs q (k - kf q 0) + pma q) (((pks q).length : Nat) - 1) = ((dst q k : Nat) : Int) := d2
  have sl := scan_le (kf q) k (dst q k)
  unfold sp_X5_down
  refine ⟨iO_c hk (by decide) rfl, ?_⟩
  refine d_guessOf hk hg hP hfr hok.1 hok.2.1 (by omega) ?_
  rw [show ((g : Nat) : Int).toNat = g by omega, hP.1.2.2.1, hP.1.2.2.2.1, w76, w77]
  have rest : ∀ t0 : Int, t0 = ((dst q k : Nat) : Int) → sp_X5_down_48 69 g lev k (gs q (k - kf q 0)) t0 M Q := by
    intro t0 ht0
    subst ht0
    have r60 : ∀ x : Int, x = (if dst q k = 0 then 0 else 1) → sp_X5_down_60 69 g lev k (gs q (k - kf q 0)) ((dst q k : Nat) : Int) x M Q := by
      intro x hx
      subst hx
      unfold sp_X5_down_60
      refine ⟨dst q k + 2, ?_⟩
      refine d_down_62 hg hfr (dst q k) d1 hP h41 (by omega) fun M1 g1 o1 l1 => ?_
      have w1 : WW M1 w := ⟨by rw [o1 39 (by omega)]; exact hw.1, fun j v hv => by rw [g1.I (by omega)]; exact hw.2 j v hv⟩
      have G1 : Ag AgF M M1 := g1.mono fun b hb => Or.inl hb
      rw [show ((lev : Nat) : Int).toNat = lev by omega, g1.I (by omega), h72, w72]
      refine ⟨by omega, by omega, ?_⟩
      rw [show ((g : Nat) : Int) - ((st : Nat) : Int) = ((p : Nat) : Int) by omega]
      refine d_say (G1.k0 hk) w1 (by omega) fun M2 g2 o2 w2 => ?_
      have G2 := G1.trans g2
      refine d_say (G2.k0 hk) w2 (by simp; omega) fun M3 g3 o3 w3 => ?_
      have G3 := G2.trans g3
      refine d_say (G3.k0 hk) w3 (by simp; omega) fun M4 g4 o4 w4 => ?_
      refine hQ M4 (G3.trans g4) (fun j h1 h2 => by rw [o4 j h1, o3 j h1, o2 j h1, o1 j h2]) (by rw [o4 41 (by omega), o3 41 (by omega), o2 41 (by omega)]; exact l1) ?_
      have : w ++ [(p : Int), dg q k, ((dsc q k).1 : Int)] = w ++ [(p : Int)] ++ [gs q (k - kf q 0)] ++ [((scan (kf q) k (dst q k)).1 : Int)] := by simp [dg, dsc]
      rw [this]; exact w4
    unfold sp_X5_down_48
    exact ⟨fun h => r60 0 (by rw [if_pos (by omega)]), fun h => r60 1 (by rw [if_neg (by omega)])⟩
  refine ⟨by omega, by omega, by omega, by omega, fun h => ⟨by omega, by omega, rest _ (by omega)⟩, fun h => ⟨by omega, by omega, rest _ (by omega)⟩⟩
theorem ksum_flat_take {s : List (List Pc)} {i p : Nat} {y : List Pc} (h : s[i]? = some y) (hp : p ≤ y.length) : ksum (s.flatten.take ((s.take i).flatten.length + p)) = ksum (s.take i).flatten + ksum (y.take p) := by
  have e : s.flatten = (s.take (i + 1)).flatten ++ (s.drop (i + 1)).flatten := by rw [← List.flatten_append, List.take_append_drop]
  rw [e, flat_take_succ h, List.append_assoc, List.take_length_add_append, ksum_app, List.take_append_of_le_length hp]
/-- what is asked of the levels, that a find may go through them -/
def LvB (s : List (List Pc)) : Prop := s.length ≤ 12 ∧ s.flatten.length ≤ 9000 ∧ ksum s.flatten ≤ 11000 ∧ ∀ (i : Nat) (y : List Pc), s[i]? = some y → ∀ q, q ∈ y → pok q ∧ pmo q
theorem d_found_33 {k : Int} {l : List Pc} {Y : List (List Pc)} {Q : Int → Im → Prop} {K88 : Nat → Int → Int → Int → Im → Prop} (hkk : -1000000000000 ≤ k ∧ k ≤ 1000000000000) (hB : LvB (l :: Y)) :
    ∀ (n p i : Nat) {M : Im} {lk : Nat} {w : List Int}, n ≤ Y.length → K0 ≤ gz M → MA M (l :: Y).flatten → MLv M (l :: Y) → p < (lyAt (l :: Y) n).length → i < (pks (pcAt (lyAt (l :: Y) n) p)).length →
    (0 < n → wok k Y l.length (n - 1) (ksum ((lyAt (l :: Y) n).take p) + i)) → (∀ m y y', (l :: Y)[m]? = some y → (l :: Y)[m + 1]? = some y' → ksum y' = y.length) → WW M w → w.length + 3 * n ≤ 40 → gI M 69 41 = (lk : Nat) → lk + 2000 * n ≤ 90000 →
    (∀ M' w' lk' p' i', Ag AgF M M' → (∀ j, j ≠ 39 → j ≠ 41 → gI M' 69 j = gI M 69 j) → WW M' w' → gI M' 69 41 = (lk' : Nat) → p' < l.length → i' < (pks (pcAt l p')).length →
      (n = 0 → p' = p ∧ i' = i ∧ w' = w ∧ lk' = lk) →
      (0 < n → p' = (walk k Y (n - 1) (ksum ((lyAt (l :: Y) n).take p) + i)).2.2 ∧ i' = (dsc (pcAt l p') k).1 ∧ w' = w ++ (walk k Y (n - 1) (ksum ((lyAt (l :: Y) n).take p) + i)).1 ++ [(p' : Int), dg (pcAt l p') k, (i' : Int)] ∧ lk' = lk + (walk k Y (n - 1) (ksum ((lyAt (l :: Y) n).take p) + i)).2.1 + (dsc (pcAt l p') k).2) → K88 69 k p' i' M') →
    sp_X5_found_33 (n + 1) 69 k n (((l :: Y).take n).flatten.length + p : Nat) i M Q K88 := by
  intro n
  have w72 : alen 72 = 20 := rfl
  have w75 : alen 75 = 10000 := rfl
  induction n with
  | zero =>
    intro p i M lk w hn hk hA hV hp hi ho hks hw hwl h41 hlk hQ
    unfold sp_X5_found_33
    refine ⟨fun _ => ?_, fun h => by omega⟩
    have := hQ M w lk p i Ag.refl (fun _ _ _ => rfl) hw h41 hp hi (fun _ => ⟨rfl, rfl, rfl, rfl⟩) (fun h => absurd h (Nat.lt_irrefl 0))
    simpa using this
  | succ n ih =>
    intro p i M lk w hn hk hA hV hp hi ho hks hw hwl h41 hlk hQ
    obtain ⟨B1, B2, B3, B4⟩ := hB
    have hy1 : (l :: Y)[n + 1]? = some (lyAt (l :: Y) (n + 1)) := by unfold lyAt; rw [List.getElem?_eq_getElem (by simp; omega)]; rfl
    have hy0 : (l :: Y)[n]? = some (lyAt (l :: Y) n) := by unfold lyAt; rw [List.getElem?_eq_getElem (by simp; omega)]; rfl
    have hks1 := hks n _ _ hy0 hy1
    have hq : (lyAt (l :: Y) (n + 1))[p]? = some (pcAt (lyAt (l :: Y) (n + 1)) p) := by unfold pcAt; rw [List.getElem?_eq_getElem hp]; rfl
    have hP := hA _ _ (flat_get hy1 hq)
    have hg1 := (List.getElem?_eq_some_iff.mp (flat_get hy1 hq)).1
    rw [ksum_flat_take hy1 (Nat.le_of_lt hp)] at hP
    obtain ⟨v1, v2⟩ := hV _ _ hy1
    obtain ⟨u1, u2⟩ := hV _ _ hy0
    have kin := ksum_in hq
    have hfirst : ∃ q0, (lyAt (l :: Y) (n + 1))[0]? = some q0 := ⟨_, List.getElem?_eq_getElem (by omega)⟩
    obtain ⟨q0, hq0⟩ := hfirst
    have hP0 := hA _ _ (flat_get hy1 hq0)
    have hg0 := (List.getElem?_eq_some_iff.mp (flat_get hy1 hq0)).1
    rw [ksum_flat_take hy1 (Nat.zero_le _)] at hP0
    rw [List.take_zero, ksum_nil, Nat.add_zero, Nat.add_zero] at hP0
    rw [Nat.add_zero] at hg0
    have kall : ksum ((l :: Y).take (n + 1)).flatten + ksum (lyAt (l :: Y) (n + 1)) ≤ ksum (l :: Y).flatten := by
      have e : (l :: Y).flatten = ((l :: Y).take (n + 2)).flatten ++ ((l :: Y).drop (n + 2)).flatten := by rw [← List.flatten_append, List.take_append_drop]
      rw [e, ksum_app, flat_take_succ hy1, ksum_app]; omega
    generalize hst1 : ((l :: Y).take (n + 1)).flatten.length = st1 at *
    generalize hks2 : ksum ((l :: Y).take (n + 1)).flatten = kst at *
    unfold sp_X5_found_33
    rw [show ((n + 1 : Nat) : Int).toNat = n + 1 by omega, v1, show ((st1 : Nat) : Int).toNat = st1 by omega, hP0.1.2.1, show ((st1 + p : Nat) : Int).toNat = st1 + p by omega, hP.1.2.1, w72, w75]
    refine ⟨fun h => by omega, fun _ => ⟨by omega, by omega, by omega, by omega, by omega, ?_⟩⟩
    rintro i1 hi1
    obtain rfl : i1 = ((ksum ((lyAt (l :: Y) (n + 1)).take p) + i : Nat) : Int) := by omega
    clear hi1
    refine ⟨by omega, ?_⟩
    rintro i2 hi2
    obtain rfl : i2 = ((n : Nat) : Int) := by omega
    clear hi2
    rw [show ((n : Nat) : Int).toNat = n by omega, u1]
    have ho' := ho (by omega)
    rw [Nat.add_sub_cancel] at ho'
    generalize hp2 : ksum ((lyAt (l :: Y) (n + 1)).take p) + i = p2 at *
    have hp2lt : p2 < (lyAt (l :: Y) n).length := by omega
    have hq2 : (lyAt (l :: Y) n)[p2]? = some (pcAt (lyAt (l :: Y) n) p2) := by unfold pcAt; rw [List.getElem?_eq_getElem hp2lt]; rfl
    have hP2 := hA _ _ (flat_get hy0 hq2)
    have hg2 := (List.getElem?_eq_some_iff.mp (flat_get hy0 hq2)).1
    rw [ksum_flat_take hy0 (Nat.le_of_lt hp2lt)] at hP2
    have kin2 := ksum_in hq2
    have kall2 : ksum ((l :: Y).take n).flatten + ksum (lyAt (l :: Y) n) ≤ ksum (l :: Y).flatten := by
      have e : (l :: Y).flatten = ((l :: Y).take (n + 1)).flatten ++ ((l :: Y).drop (n + 1)).flatten := by rw [← List.flatten_append, List.take_append_drop]
      rw [e, ksum_app, flat_take_succ hy0, ksum_app]; omega
    have hmem := B4 _ _ hy0 _ (List.mem_of_getElem? hq2)
    have dd := (dst_lt (k := k) hmem.1 hmem.2).1
    have sl := scan_le (kf (pcAt (lyAt (l :: Y) n) p2)) k (dst (pcAt (lyAt (l :: Y) n) p2) k)
    have sl' : (dsc (pcAt (lyAt (l :: Y) n) p2) k).1 ≤ dst (pcAt (lyAt (l :: Y) n) p2) k ∧ (dsc (pcAt (lyAt (l :: Y) n) p2) k).2 ≤ dst (pcAt (lyAt (l :: Y) n) p2) k := sl
    have hlen2 := hmem.1.1.2.2
    refine ⟨by omega, by omega, ?_⟩
    rintro i3 hi3
    obtain rfl : i3 = ((((l :: Y).take n).flatten.length + p2 : Nat) : Int) := by omega
    clear hi3
    refine d_down (st := ((l :: Y).take n).flatten.length) (p := p2) hk (by omega) hP2 (by omega) hmem.1 hmem.2 hkk (by simp at B1; omega) u1 rfl hw (by omega) h41 (by omega) fun M4 g4 o4 l4 w4 => ?_
    have offF : ∀ b, b ≠ 69 → b ≠ 95 → ¬ AgF b := fun b h1 h2 h => by unfold AgF at h; omega
    have A4 := hA.ag g4 (fun b h1 h2 => offF b (by omega) (by omega))
    have V4 := hV.ag g4 (offF 72 (by omega) (by omega)) (offF 73 (by omega) (by omega))
    have hmain : 0 < n → wok k Y l.length (n - 1) (ksum ((lyAt (l :: Y) n).take p2) + (dsc (pcAt (lyAt (l :: Y) n) p2) k).1) := fun hn0 => by
      obtain ⟨n', rfl⟩ : ∃ n', n = n' + 1 := ⟨n - 1, by omega⟩
      have hly : lyAt (l :: Y) (n' + 1) = lyAt Y n' := by unfold lyAt; rw [List.getElem?_cons_succ]
      rw [hly]
      have := ho'.2
      exact this
    refine ih p2 (dsc (pcAt (lyAt (l :: Y) n) p2) k).1 (by omega) (g4.k0 hk) A4 V4 hp2lt (by omega) hmain hks w4 (by rw [List.length_append]; simp; omega) l4 (by omega) fun M' w' lk' p' i' g' o' ww ll hp' hi' c0 c1 => ?_
    refine hQ M' w' lk' p' i' (g4.trans g') (fun j h1 h2 => (o' j h1 h2).trans (o4 j h1 h2)) ww ll hp' hi' (fun h => by omega) fun _ => ?_
    rw [Nat.add_sub_cancel]
    cases n with
    | zero =>
      obtain ⟨e1, e2, e3, e4⟩ := c0 rfl
      have hly : lyAt (l :: Y) 0 = l := rfl
      rw [hly] at e2 e3 e4
      subst e1
      unfold walk
      refine ⟨rfl, e2, ?_, ?_⟩
      · rw [e3, e2]; simp
      · rw [e4]; simp
    | succ n =>
      obtain ⟨e1, e2, e3, e4⟩ := c1 (by omega)
      rw [Nat.add_sub_cancel] at e1 e3 e4
      have hly : lyAt (l :: Y) (n + 1) = lyAt Y n := by unfold lyAt; rw [List.getElem?_cons_succ]
      rw [hly] at e1 e3 e4
      unfold walk
      refine ⟨e1, e2, ?_, ?_⟩
      · rw [e3]; simp
      · rw [e4]; dsimp only; omega
