/-! ===== the model's find, the whole ===== -/
theorem offF {b : Nat} (h1 : b ≠ 69) (h2 : b ≠ 95) : ¬ AgF b := fun h => by unfold AgF at h; omega
noncomputable def lateI (t : Nat × Nat × Int) : Int := if t.2.2 = 1 then (t.1 : Int) - 1 else -1
theorem d_found_181 {p fr : Nat} {k : Int} {q : Pc} {Q : Int → Im → Prop} {K256 : Nat → Im → Prop} (hp : p < 10000) (hll : (plt q).length ≤ 16) :
    ∀ (i : Nat) {M : Im} {lk : Nat}, i ≤ (plt q).length → MP M p fr q → gI M 69 41 = (lk : Nat) → gI M 69 45 = -1 → lk + i ≤ 200000 → (∀ M', Ag (· = 69) M M' → (∀ j, j ≠ 41 → j ≠ 45 → gI M' 69 j = gI M 69 j) → gI M' 69 41 = ((lk + (lsc (tf q) k i).2.1 : Nat) : Int) → gI M' 69 45 = lateI (lsc (tf q) k i) → K256 69 M') →
    sp_X5_found_181 (i + 2) 69 k p ((i : Int) - 1) (if i = 0 then 0 else 1) M Q K256
  | 0, M, lk, hi, hP, h41, h45, hlk, hQ => by
    unfold sp_X5_found_181
    rw [if_pos rfl]
    refine ⟨fun _ => hQ M Ag.refl (fun _ _ _ => rfl) h41 (by unfold lateI lsc; exact h45), fun h => absurd rfl h⟩
  | i + 1, M, lk, hi, hP, h41, h45, hlk, hQ => by
    have w83 : alen 83 = 160000 := rfl
    unfold sp_X5_found_181
    rw [if_neg (show ¬ (i + 1 = 0) by omega), h41, show ((i + 1 : Nat) : Int) - 1 = ((i : Nat) : Int) by omega]
    refine ⟨fun h => by omega, fun _ => ⟨by omega, ?_⟩⟩
    rintro M1 rfl
    have g1 : Ag (· = 69) M (pI M 69 41 ((lk : Int) + 1)) := (Ag.refl (S := (· = 69))).pI rfl
    have e41 : gI (pI M 69 41 ((lk : Int) + 1)) 69 41 = ((lk + 1 : Nat) : Int) := by simp [gI_pI, gI_pL, gI_pD, gI_pR, gI_pnw, gI_pcp, gL_pI, gL_pL, gL_pD, gL_pR, gL_pnw, gL_pcp, gD_pI, gD_pL, gD_pD, gD_pR, gD_pnw, gD_pcp, gR_pI, gR_pL, gR_pD, gR_pR, gR_pnw, gR_pcp, gz_pI, gz_pL, gz_pD, gz_pR, gz_pnw, gz_pcp]
    have eo : ∀ j, j ≠ 41 → gI (pI M 69 41 ((lk : Int) + 1)) 69 j = gI M 69 j := fun j hj => by simp [gI_pI, gI_pL, gI_pD, gI_pR, gI_pnw, gI_pcp, gL_pI, gL_pL, gL_pD, gL_pR, gL_pnw, gL_pcp, gD_pI, gD_pL, gD_pD, gD_pR, gD_pnw, gD_pcp, gR_pI, gR_pL, gR_pD, gR_pR, gR_pnw, gR_pcp, gz_pI, gz_pL, gz_pD, gz_pR, gz_pnw, gz_pcp, hj]
    generalize pI M 69 41 ((lk : Int) + 1) = M1 at g1 e41 eo
    have P1 : MP M1 p fr q := hP.frame (fun b h1 h2 => g1.I (by omega) p) (fun b h1 h2 => g1.L (by omega) p) (fun i _ => ⟨g1.L (by omega) _, g1.I (by omega) _⟩) (fun i _ => g1.L (by omega) _)
    have hv := P1.2.2.2 i (by omega)
    have a45 : gI M1 69 45 = -1 := by rw [eo 45 (by omega)]; exact h45
    rw [show (16 : Int) * ((p : Nat) : Int) + ((i : Nat) : Int) = ((16 * p + i : Nat) : Int) by omega, show ((16 * p + i : Nat) : Int).toNat = 16 * p + i by omega, hv, w83]
    unfold lsc at hQ
    -- the last one
    have stop : ∀ (M2 : Im), Ag (· = 69) M1 M2 → (∀ j, j ≠ 45 → gI M2 69 j = gI M1 69 j) → ((tf q i ≤ k ∧ gI M2 69 45 = (if tf q i = k then (i : Int) else -1)) ∨ (k < tf q i ∧ i = 0 ∧ gI M2 69 45 = -1)) → sp_X5_found_181 (i + 2) 69 k p ((i : Int) + -1) 0 M2 Q K256 := by
      intro M2 g2 o2 h2
      unfold sp_X5_found_181
      refine ⟨fun _ => ?_, fun h => absurd rfl h⟩
      refine hQ M2 (g1.trans g2) (fun j h1 h2 => by rw [o2 j h2, eo j h1]) ?_ ?_
      · rw [o2 41 (by omega), e41]
        rcases h2 with ⟨a, b⟩ | ⟨a, b, c⟩
        · rw [if_neg (by omega)]
        · rw [if_pos a]; subst b; unfold lsc; dsimp only
      · rcases h2 with ⟨a, b⟩ | ⟨a, b, c⟩
        · rw [b, if_neg (show ¬ k < tf q i by omega)]
          by_cases e : tf q i = k
          · rw [if_pos e, if_pos e]
            show (i : Int) = if (1 : Int) = 1 then ((i + 1 : Nat) : Int) - 1 else -1
            rw [if_pos rfl]; omega
          · rw [if_neg e, if_neg e]
            show (-1 : Int) = if (0 : Int) = 1 then ((i + 1 : Nat) : Int) - 1 else -1
            rw [if_neg (by omega)]
        · rw [c, if_pos a]; subst b; unfold lsc lateI; dsimp only; rw [if_neg (by omega)]
    refine ⟨by omega, by omega, by omega, by omega, by omega, fun h => ?_, fun h => ⟨fun h0 => ?_, fun h0 => ?_⟩⟩
    · unfold sp_X5_found_223 sp_X5_found_224
      rw [show (16 : Int) * ((p : Nat) : Int) + ((i : Nat) : Int) = ((16 * p + i : Nat) : Int) by omega, show ((16 * p + i : Nat) : Int).toNat = 16 * p + i by omega, hv, w83]
      refine ⟨by omega, by omega, by omega, by omega, by omega, fun hne => ?_, fun he => ?_⟩
      · unfold sp_X5_found_250
        refine ⟨by omega, ?_⟩
        rintro i15 rfl
        exact stop M1 Ag.refl (fun _ _ => rfl) (Or.inl ⟨h, by rw [if_neg hne]; exact a45⟩)
      · rintro M14 rfl
        unfold sp_X5_found_250
        refine ⟨by omega, ?_⟩
        rintro i15 rfl
        exact stop _ ((Ag.refl (S := (· = 69))).pI rfl) (fun j hj => by simp [gI_pI, gI_pL, gI_pD, gI_pR, gI_pnw, gI_pcp, gL_pI, gL_pL, gL_pD, gL_pR, gL_pnw, gL_pcp, gD_pI, gD_pL, gD_pD, gD_pR, gD_pnw, gD_pcp, gR_pI, gR_pL, gR_pD, gR_pR, gR_pnw, gR_pcp, gz_pI, gz_pL, gz_pD, gz_pR, gz_pnw, gz_pcp, hj]) (Or.inl ⟨h, by rw [if_pos he]; simp [gI_pI, gI_pL, gI_pD, gI_pR, gI_pnw, gI_pcp, gL_pI, gL_pL, gL_pD, gL_pR, gL_pnw, gL_pcp, gD_pI, gD_pL, gD_pD, gD_pR, gD_pnw, gD_pcp, gR_pI, gR_pL, gR_pD, gR_pR, gR_pnw, gR_pcp, gz_pI, gz_pL, gz_pD, gz_pR, gz_pnw, gz_pcp]⟩)
    · have hi0 : i = 0 := by omega
      unfold sp_X5_found_223 sp_X5_found_224
      rw [show (16 : Int) * ((p : Nat) : Int) + ((i : Nat) : Int) = ((16 * p + i : Nat) : Int) by omega, show ((16 * p + i : Nat) : Int).toNat = 16 * p + i by omega, hv, w83]
      refine ⟨by omega, by omega, by omega, by omega, by omega, fun hne => ?_, fun he => by omega⟩
      unfold sp_X5_found_250
      refine ⟨by omega, ?_⟩
      rintro i15 rfl
      exact stop M1 Ag.refl (fun _ _ => rfl) (Or.inr ⟨h, hi0, a45⟩)
    · unfold sp_X5_found_224
      rw [show (16 : Int) * ((p : Nat) : Int) + ((i : Nat) : Int) = ((16 * p + i : Nat) : Int) by omega, show ((16 * p + i : Nat) : Int).toNat = 16 * p + i by omega, hv, w83]
      refine ⟨by omega, by omega, by omega, by omega, by omega, fun hne => ?_, fun he => by omega⟩
      unfold sp_X5_found_250
      refine ⟨by omega, ?_⟩
      rintro i15 rfl
      rw [if_pos h] at hQ
      have ls := lsc_le (tf q) k i
      have nx := d_found_181 (Q := Q) (K256 := K256) (k := k) (fr := fr) hp hll i (M := M1) (lk := lk + 1) (by omega) P1 e41 a45 (by omega) fun M' g' o' l' a' => hQ M' (g1.trans g') (fun j h1 h2 => (o' j h1 h2).trans (eo j h1)) (by rw [l']; dsimp only; omega) (by rw [a']; rfl)
      rw [if_neg (by omega)] at nx
      exact nx
theorem walk_top (k : Int) (l : List Pc) (Y : List (List Pc)) : lyAt (l :: Y) Y.length = (if Y.length = 0 then l else lyAt Y (Y.length - 1)) := by
  unfold lyAt
  cases Y with
  | nil => rfl
  | cons y Y => simp
theorem d_found {M : Im} {k : Int} {l : List Pc} {Y : List (List Pc)} {Q : Int → Im → Prop} (hk : K0 ≤ gz M) (hkk : -1000000000000 ≤ k ∧ k ≤ 1000000000000) (hB : LvB (l :: Y)) (hll : ∀ q, q ∈ l → (plt q).length ≤ 16) (hA : MA M (l :: Y).flatten) (hV : MLv M (l :: Y)) (h9 : gI M 69 9 = Y.length) (ho : wok k Y l.length Y.length 0) (hks : ∀ m y y', (l :: Y)[m]? = some y → (l :: Y)[m + 1]? = some y' → ksum y' = y.length)
    (hQ : ∀ M', Ag AgF M M' → (∀ j, j ≠ 39 → j ≠ 41 → j ≠ 43 → j ≠ 44 → j ≠ 45 → gI M' 69 j = gI M 69 j) → WW M' (ftold k l Y) → gI M' 69 41 = (flooks k l Y : Nat) → gI M' 69 43 = (fpc k Y : Nat) → gI M' 69 44 = (fi k l Y : Nat) → (kf (fq k l Y) (fi k l Y) = k ∧ df (fq k l Y) (fi k l Y) = 0 → gI M' 69 45 = -1) → (¬ (kf (fq k l Y) (fi k l Y) = k ∧ df (fq k l Y) (fi k l Y) = 0) → gI M' 69 45 = lateI (fls k l Y)) → Q (fans k l Y) M') : sp_X5_found 69 k M Q := by
  have w72 : alen 72 = 20 := rfl
  have w75 : alen 75 = 10000 := rfl
  have w78 : alen 78 = 10000 := rfl
  have w82 : alen 82 = 12000 := rfl
  obtain ⟨B1, B2, B3, B4⟩ := id hB
  have B1' : Y.length ≤ 11 := by simpa using B1
  unfold sp_X5_found
  refine ⟨iO_c hk (by decide) rfl, ?_⟩
  rintro M17 rfl M18 rfl
  have g0 : Ag AgF M (pI (pI M 69 39 0) 69 41 0) := ((Ag.refl (S := AgF)).pI (Or.inl rfl)).pI (Or.inl rfl)
  have e39 : gI (pI (pI M 69 39 0) 69 41 0) 69 39 = 0 := by simp [gI_pI, gI_pL, gI_pD, gI_pR, gI_pnw, gI_pcp, gL_pI, gL_pL, gL_pD, gL_pR, gL_pnw, gL_pcp, gD_pI, gD_pL, gD_pD, gD_pR, gD_pnw, gD_pcp, gR_pI, gR_pL, gR_pD, gR_pR, gR_pnw, gR_pcp, gz_pI, gz_pL, gz_pD, gz_pR, gz_pnw, gz_pcp]
  have e41 : gI (pI (pI M 69 39 0) 69 41 0) 69 41 = ((0 : Nat) : Int) := by simp [gI_pI, gI_pL, gI_pD, gI_pR, gI_pnw, gI_pcp, gL_pI, gL_pL, gL_pD, gL_pR, gL_pnw, gL_pcp, gD_pI, gD_pL, gD_pD, gD_pR, gD_pnw, gD_pcp, gR_pI, gR_pL, gR_pD, gR_pR, gR_pnw, gR_pcp, gz_pI, gz_pL, gz_pD, gz_pR, gz_pnw, gz_pcp]
  have eo : ∀ j, j ≠ 39 → j ≠ 41 → gI (pI (pI M 69 39 0) 69 41 0) 69 j = gI M 69 j := fun j h1 h2 => by simp [gI_pI, gI_pL, gI_pD, gI_pR, gI_pnw, gI_pcp, gL_pI, gL_pL, gL_pD, gL_pR, gL_pnw, gL_pcp, gD_pI, gD_pL, gD_pD, gD_pR, gD_pnw, gD_pcp, gR_pI, gR_pL, gR_pD, gR_pR, gR_pnw, gR_pcp, gz_pI, gz_pL, gz_pD, gz_pR, gz_pnw, gz_pcp, h1, h2]
  generalize pI (pI M 69 39 0) 69 41 0 = M0 at g0 e39 e41 eo
  have A0 := hA.ag g0 (fun b h1 h2 => offF (by omega) (by omega))
  have V0 := hV.ag g0 (offF (by omega) (by omega)) (offF (by omega) (by omega))
  have k0 := g0.k0 hk
  rw [eo 9 (by omega) (by omega), h9]
  rintro i19 rfl
  have hyt : (l :: Y)[Y.length]? = some (lyAt (l :: Y) Y.length) := by unfold lyAt; rw [List.getElem?_eq_getElem (by simp)]; rfl
  obtain ⟨v1, v2⟩ := V0 _ _ hyt
  rw [show ((Y.length : Nat) : Int).toNat = Y.length by omega, v1, w72]
  refine ⟨by omega, ?_⟩
  rintro i20 rfl
  have hp0 : 0 < (lyAt (l :: Y) Y.length).length := by
    rw [walk_top k]
    split
    · rename_i h; rw [h] at ho; exact ho
    · rename_i h
      obtain ⟨n, hn⟩ : ∃ n, Y.length = n + 1 := ⟨Y.length - 1, by omega⟩
      rw [hn, Nat.add_sub_cancel]
      rw [hn] at ho
      exact ho.1
  have hq : (lyAt (l :: Y) Y.length)[0]? = some (pcAt (lyAt (l :: Y) Y.length) 0) := by unfold pcAt; rw [List.getElem?_eq_getElem hp0]; rfl
  have hP := A0 _ _ (flat_get hyt hq)
  have hg := (List.getElem?_eq_some_iff.mp (flat_get hyt hq)).1
  rw [ksum_flat_take hyt (Nat.zero_le _), List.take_zero, ksum_nil, Nat.add_zero, Nat.add_zero] at hP
  rw [Nat.add_zero] at hg
  have kin := ksum_in hq
  have kall : ksum ((l :: Y).take Y.length).flatten + ksum (lyAt (l :: Y) Y.length) ≤ ksum (l :: Y).flatten := by
    have e : (l :: Y).flatten = ((l :: Y).take (Y.length + 1)).flatten ++ ((l :: Y).drop (Y.length + 1)).flatten := by rw [← List.flatten_append, List.take_append_drop]
    rw [e, ksum_app, flat_take_succ hyt, ksum_app]; omega
  have hmem := B4 _ _ hyt _ (List.mem_of_getElem? hq)
  have dd := (dst_lt (k := k) hmem.1 hmem.2).1
  have sl : (dsc (pcAt (lyAt (l :: Y) Y.length) 0) k).1 ≤ dst (pcAt (lyAt (l :: Y) Y.length) 0) k ∧ (dsc (pcAt (lyAt (l :: Y) Y.length) 0) k).2 ≤ dst (pcAt (lyAt (l :: Y) Y.length) 0) k := scan_le _ k _
  have hlen2 := hmem.1.1.2.2
  refine d_down (st := ((l :: Y).take Y.length).flatten.length) (p := 0) (w := []) (lk := 0) k0 (by omega) hP (by omega) hmem.1 hmem.2 hkk (by omega) v1 rfl ⟨e39, fun j v h => by simp at h⟩ (by simp) e41 (by omega) fun M1 g1 o1 l1 w1 => ?_
  have G1 := g0.trans g1
  have A1 := hA.ag G1 (fun b h1 h2 => offF (by omega) (by omega))
  have V1 := hV.ag G1 (offF (by omega) (by omega)) (offF (by omega) (by omega))
  refine ⟨Y.length + 1, ?_⟩
  rw [List.nil_append] at w1
  have hmain : 0 < Y.length → wok k Y l.length (Y.length - 1) (ksum ((lyAt (l :: Y) Y.length).take 0) + (dsc (pcAt (lyAt (l :: Y) Y.length) 0) k).1) := fun hn0 => by
    obtain ⟨n, hn⟩ : ∃ n, Y.length = n + 1 := ⟨Y.length - 1, by omega⟩
    rw [walk_top k, if_neg (by omega)]
    rw [hn, Nat.add_sub_cancel]
    rw [hn] at ho
    exact ho.2
  have key := d_found_33 (k := k) (l := l) (Y := Y) (Q := Q) (K88 := fun (x0 : Nat) (x1 : Int) (x4 : Int) (x5 : Int) (M : Im) =>
    ∀ M6 : Im, M6 = pI M x0 43 x4 →
    ∀ M7 : Im, M7 = pI M6 x0 44 x5 →
    ∀ M8 : Im, M8 = pI M7 x0 45 (-1) →
    (-2147483648 ≤ (gI M8 x0 41) + 1 ∧ (gI M8 x0 41) + 1 < 2147483648) ∧
    ∀ M9 : Im, M9 = pI M8 x0 41 ((gI M8 x0 41) + 1) →
    (0 ≤ x4 ∧ x4 < ((alen 75) : Int)) ∧
    (-2147483648 ≤ (gI M9 75 x4.toNat) + x5 ∧ (gI M9 75 x4.toNat) + x5 < 2147483648) ∧
    (0 ≤ (gI M9 75 x4.toNat) + x5 ∧ (gI M9 75 x4.toNat) + x5 < ((alen 82) : Int)) ∧
    (-2147483648 ≤ (gI M9 75 x4.toNat) + x5 ∧ (gI M9 75 x4.toNat) + x5 < 2147483648) ∧
    (¬ (gL M9 82 ((gI M9 75 x4.toNat) + x5).toNat) = x1 →
    sp_X5_found_151 x0 x1 x4 0 M9 Q) ∧
    ((gL M9 82 ((gI M9 75 x4.toNat) + x5).toNat) = x1 →
    sp_X5_isThere x0 x4 x5 M9 (fun (i11 : Int) (M10 : Im) =>
    (i11 = 0 →
    sp_X5_found_151 x0 x1 x4 0 M10 Q) ∧
    (¬ i11 = 0 →
    sp_X5_found_151 x0 x1 x4 1 M10 Q)))) hkk hB Y.length 0 (dsc (pcAt (lyAt (l :: Y) Y.length) 0) k).1 (M := M1) (lk := 0 + (dsc (pcAt (lyAt (l :: Y) Y.length) 0) k).2) (w := [((0 : Nat) : Int), dg (pcAt (lyAt (l :: Y) Y.length) 0) k, ((dsc (pcAt (lyAt (l :: Y) Y.length) 0) k).1 : Int)]) (Nat.le_refl _) (G1.k0 hk) A1 V1 hp0 (by omega) hmain hks w1 (by simp; omega) l1 (by omega) (fun M2 w' lk' p' i' g2 o2 ww ll hp' hi' c0 c1 => ?_)
  · rw [Nat.add_zero] at key
    exact key
  -- what was told on the way
  have hres : p' = fpc k Y ∧ i' = fi k l Y ∧ w' = (walk k Y Y.length 0).1 ++ [(fpc k Y : Int), dg (fq k l Y) k, (fi k l Y : Int)] ∧ lk' = (walk k Y Y.length 0).2.1 + (dsc (fq k l Y) k).2 := by
    unfold fi fq fpc
    rcases Nat.eq_zero_or_pos Y.length with hz | hz
    · obtain ⟨e1, e2, e3, e4⟩ := c0 hz
      have ht : lyAt (l :: Y) Y.length = l := by rw [walk_top k, if_pos hz]
      rw [ht] at e2 e3 e4
      rw [hz]
      unfold walk
      refine ⟨e1, e2, ?_, ?_⟩
      · rw [e3]; simp
      · rw [e4]
    · obtain ⟨e1, e2, e3, e4⟩ := c1 hz
      obtain ⟨n, hn⟩ : ∃ n, Y.length = n + 1 := ⟨Y.length - 1, by omega⟩
      have ht : lyAt (l :: Y) Y.length = lyAt Y n := by rw [walk_top k, if_neg (by omega), hn, Nat.add_sub_cancel]
      rw [ht] at e1 e3 e4
      rw [hn, Nat.add_sub_cancel] at e1 e3 e4
      rw [hn]
      unfold walk
      try dsimp only
      refine ⟨e1, by rw [e2, e1], ?_, ?_⟩
      · rw [e3, e2, e1]
      · rw [e4, e1]; omega
  obtain ⟨rfl, rfl, rfl, rfl⟩ := hres
  try dsimp only
  rintro M6 rfl M7 rfl M8 rfl
  have G2 := G1.trans g2
  have c41 : gI (pI (pI (pI M2 69 43 (fpc k Y : Nat)) 69 44 (fi k l Y : Nat)) 69 45 (-1)) 69 41 = (((walk k Y Y.length 0).2.1 + (dsc (fq k l Y) k).2 : Nat) : Int) := by simp [gI_pI, gI_pL, gI_pD, gI_pR, gI_pnw, gI_pcp, gL_pI, gL_pL, gL_pD, gL_pR, gL_pnw, gL_pcp, gD_pI, gD_pL, gD_pD, gD_pR, gD_pnw, gD_pcp, gR_pI, gR_pL, gR_pD, gR_pR, gR_pnw, gR_pcp, gz_pI, gz_pL, gz_pD, gz_pR, gz_pnw, gz_pcp]; simpa using ll
  have hq' : l[fpc k Y]? = some (fq k l Y) := by unfold fq pcAt; rw [List.getElem?_eq_getElem hp']; rfl
  have hmem' := B4 0 l rfl _ (List.mem_of_getElem? hq')
  have hll' := hll _ (List.mem_of_getElem? hq')
  have dd' := (dst_lt (k := k) hmem'.1 hmem'.2).1
  have sl' : (dsc (fq k l Y) k).1 ≤ dst (fq k l Y) k ∧ (dsc (fq k l Y) k).2 ≤ dst (fq k l Y) k := scan_le _ k _
  have hlen' := hmem'.1.1.2.2
  have wbd : (walk k Y Y.length 0).2.1 ≤ 90000 := by
    have h := ll
    have : ∀ (n p : Nat), wok k Y l.length n p → n ≤ Y.length → (walk k Y n p).2.1 ≤ 2000 * n := by
      intro n
      induction n with
      | zero => intro p _ _; exact Nat.le_refl _
      | succ n ih =>
        intro p hw hn
        have h1 := ih _ hw.2 (by omega)
        have hyn : (l :: Y)[n + 1]? = some (lyAt Y n) := by unfold lyAt; rw [List.getElem?_cons_succ, List.getElem?_eq_getElem (by omega)]; rfl
        have hqn : (lyAt Y n)[p]? = some (pcAt (lyAt Y n) p) := by unfold pcAt; rw [List.getElem?_eq_getElem hw.1]; rfl
        have hm := B4 _ _ hyn _ (List.mem_of_getElem? hqn)
        have d1 := (dst_lt (k := k) hm.1 hm.2).1
        have s1 : (dsc (pcAt (lyAt Y n) p) k).2 ≤ dst (pcAt (lyAt Y n) p) k := (scan_le _ k _).2
        have l1 := hm.1.1.2.2
        unfold walk
        try dsimp only
        omega
    have := this Y.length 0 ho (Nat.le_refl _)
    omega
  rw [c41]
  refine ⟨by omega, ?_⟩
  rintro M9 rfl
  have G9 : Ag AgF M (pI (pI (pI (pI M2 69 43 (fpc k Y : Nat)) 69 44 (fi k l Y : Nat)) 69 45 (-1)) 69 41 ((((walk k Y Y.length 0).2.1 + (dsc (fq k l Y) k).2 : Nat) : Int) + 1)) := (((G2.pI (Or.inl rfl)).pI (Or.inl rfl)).pI (Or.inl rfl)).pI (Or.inl rfl)
  have b41 : gI (pI (pI (pI (pI M2 69 43 (fpc k Y : Nat)) 69 44 (fi k l Y : Nat)) 69 45 (-1)) 69 41 ((((walk k Y Y.length 0).2.1 + (dsc (fq k l Y) k).2 : Nat) : Int) + 1)) 69 41 = (((walk k Y Y.length 0).2.1 + (dsc (fq k l Y) k).2 + 1 : Nat) : Int) := by simp [gI_pI, gI_pL, gI_pD, gI_pR, gI_pnw, gI_pcp, gL_pI, gL_pL, gL_pD, gL_pR, gL_pnw, gL_pcp, gD_pI, gD_pL, gD_pD, gD_pR, gD_pnw, gD_pcp, gR_pI, gR_pL, gR_pD, gR_pR, gR_pnw, gR_pcp, gz_pI, gz_pL, gz_pD, gz_pR, gz_pnw, gz_pcp]
  have b43 : gI (pI (pI (pI (pI M2 69 43 (fpc k Y : Nat)) 69 44 (fi k l Y : Nat)) 69 45 (-1)) 69 41 ((((walk k Y Y.length 0).2.1 + (dsc (fq k l Y) k).2 : Nat) : Int) + 1)) 69 43 = (fpc k Y : Nat) := by simp [gI_pI, gI_pL, gI_pD, gI_pR, gI_pnw, gI_pcp, gL_pI, gL_pL, gL_pD, gL_pR, gL_pnw, gL_pcp, gD_pI, gD_pL, gD_pD, gD_pR, gD_pnw, gD_pcp, gR_pI, gR_pL, gR_pD, gR_pR, gR_pnw, gR_pcp, gz_pI, gz_pL, gz_pD, gz_pR, gz_pnw, gz_pcp]
  have b44 : gI (pI (pI (pI (pI M2 69 43 (fpc k Y : Nat)) 69 44 (fi k l Y : Nat)) 69 45 (-1)) 69 41 ((((walk k Y Y.length 0).2.1 + (dsc (fq k l Y) k).2 : Nat) : Int) + 1)) 69 44 = (fi k l Y : Nat) := by simp [gI_pI, gI_pL, gI_pD, gI_pR, gI_pnw, gI_pcp, gL_pI, gL_pL, gL_pD, gL_pR, gL_pnw, gL_pcp, gD_pI, gD_pL, gD_pD, gD_pR, gD_pnw, gD_pcp, gR_pI, gR_pL, gR_pD, gR_pR, gR_pnw, gR_pcp, gz_pI, gz_pL, gz_pD, gz_pR, gz_pnw, gz_pcp]
  have b45 : gI (pI (pI (pI (pI M2 69 43 (fpc k Y : Nat)) 69 44 (fi k l Y : Nat)) 69 45 (-1)) 69 41 ((((walk k Y Y.length 0).2.1 + (dsc (fq k l Y) k).2 : Nat) : Int) + 1)) 69 45 = -1 := by simp [gI_pI, gI_pL, gI_pD, gI_pR, gI_pnw, gI_pcp, gL_pI, gL_pL, gL_pD, gL_pR, gL_pnw, gL_pcp, gD_pI, gD_pL, gD_pD, gD_pR, gD_pnw, gD_pcp, gR_pI, gR_pL, gR_pD, gR_pR, gR_pnw, gR_pcp, gz_pI, gz_pL, gz_pD, gz_pR, gz_pnw, gz_pcp]
  have bo : ∀ j, j ≠ 41 → j ≠ 43 → j ≠ 44 → j ≠ 45 → gI (pI (pI (pI (pI M2 69 43 (fpc k Y : Nat)) 69 44 (fi k l Y : Nat)) 69 45 (-1)) 69 41 ((((walk k Y Y.length 0).2.1 + (dsc (fq k l Y) k).2 : Nat) : Int) + 1)) 69 j = gI M2 69 j := fun j h1 h2 h3 h4 => by simp [gI_pI, gI_pL, gI_pD, gI_pR, gI_pnw, gI_pcp, gL_pI, gL_pL, gL_pD, gL_pR, gL_pnw, gL_pcp, gD_pI, gD_pL, gD_pD, gD_pR, gD_pnw, gD_pcp, gR_pI, gR_pL, gR_pD, gR_pR, gR_pnw, gR_pcp, gz_pI, gz_pL, gz_pD, gz_pR, gz_pnw, gz_pcp, h1, h2, h3, h4]
  have b95 : ∀ j, gI (pI (pI (pI (pI M2 69 43 (fpc k Y : Nat)) 69 44 (fi k l Y : Nat)) 69 45 (-1)) 69 41 ((((walk k Y Y.length 0).2.1 + (dsc (fq k l Y) k).2 : Nat) : Int) + 1)) 95 j = gI M2 95 j := fun j => by simp [gI_pI, gI_pL, gI_pD, gI_pR, gI_pnw, gI_pcp, gL_pI, gL_pL, gL_pD, gL_pR, gL_pnw, gL_pcp, gD_pI, gD_pL, gD_pD, gD_pR, gD_pnw, gD_pcp, gR_pI, gR_pL, gR_pD, gR_pR, gR_pnw, gR_pcp, gz_pI, gz_pL, gz_pD, gz_pR, gz_pnw, gz_pcp]
  generalize pI (pI (pI (pI M2 69 43 (fpc k Y : Nat)) 69 44 (fi k l Y : Nat)) 69 45 (-1)) 69 41 ((((walk k Y Y.length 0).2.1 + (dsc (fq k l Y) k).2 : Nat) : Int) + 1) = M9 at G9 b41 b43 b44 b45 bo b95
  have k9 := G9.k0 hk
  have A9 := hA.ag G9 (fun b h1 h2 => offF (by omega) (by omega))
  have P9 := A9 _ _ (flat_get (s := l :: Y) (i := 0) (y := l) rfl hq')
  rw [ksum_flat_take (s := l :: Y) (i := 0) (y := l) rfl (Nat.le_of_lt hp')] at P9
  have e0 : ((l :: Y).take 0).flatten = [] := rfl
  rw [e0, List.length_nil, ksum_nil, Nat.zero_add, Nat.zero_add] at P9
  have hfi : fi k l Y < (pks (fq k l Y)).length := by show (dsc (fq k l Y) k).1 < _; omega
  have hg9 := (List.getElem?_eq_some_iff.mp (flat_get (s := l :: Y) (i := 0) (y := l) rfl hq')).1
  rw [e0, List.length_nil, Nat.zero_add] at hg9
  have kin9 := ksum_in hq'
  have kall9 : ksum l ≤ ksum (l :: Y).flatten := by rw [List.flatten_cons, ksum_app]; omega
  have w9 : WW M9 ((walk k Y Y.length 0).1 ++ [(fpc k Y : Int), dg (fq k l Y) k, (fi k l Y : Int)]) := ⟨by rw [bo 39 (by omega) (by omega) (by omega) (by omega)]; exact ww.1, fun j v hv => by rw [b95]; exact ww.2 j v hv⟩
  have wl := walk_len k Y Y.length 0
  have wl9 : ((walk k Y Y.length 0).1 ++ [(fpc k Y : Int), dg (fq k l Y) k, (fi k l Y : Int)]).length < 64 := by rw [List.length_append]; simp; omega
  have o9 : ∀ j, j ≠ 39 → j ≠ 41 → j ≠ 43 → j ≠ 44 → j ≠ 45 → gI M9 69 j = gI M 69 j := fun j h1 h2 h3 h4 h5 => by rw [bo j h2 h3 h4 h5, o2 j h1 h2, o1 j h1 h2, eo j h1 h2]
  rw [show ((fpc k Y : Nat) : Int).toNat = fpc k Y by omega, P9.1.2.1, show ((ksum (l.take (fpc k Y)) : Nat) : Int) + ((fi k l Y : Nat) : Int) = ((ksum (l.take (fpc k Y)) + fi k l Y : Nat) : Int) by omega, show ((ksum (l.take (fpc k Y)) + fi k l Y : Nat) : Int).toNat = ksum (l.take (fpc k Y)) + fi k l Y by omega, (P9.2.2.1 _ hi').1, w75, w82]
  have end1 : (kf (fq k l Y) (fi k l Y) = k ∧ df (fq k l Y) (fi k l Y) = 0) → sp_X5_found_151 69 k (fpc k Y : Nat) 1 M9 Q := fun hh => by
    have ea : fans k l Y = 1 := by unfold fans; rw [if_pos hh]
    have el : flooks k l Y = (walk k Y Y.length 0).2.1 + (dsc (fq k l Y) k).2 + 1 := by unfold flooks; rw [if_pos hh]
    unfold sp_X5_found_151
    refine ⟨fun _ => ?_, fun h => by omega⟩
    unfold sp_X5_found_270
    refine ⟨fun h => by omega, fun _ => ?_⟩
    unfold sp_X5_found_281
    refine d_say k9 w9 wl9 fun M' g o w => ⟨Or.inr rfl, ?_⟩
    have := hQ M' (G9.trans g) (fun j h1 h2 h3 h4 h5 => by rw [o j h1, o9 j h1 h2 h3 h4 h5]) (by unfold ftold; rw [ea]; exact w) (by rw [o 41 (by omega), b41, el]) (by rw [o 43 (by omega), b43]) (by rw [o 44 (by omega), b44]) (fun _ => by rw [o 45 (by omega), b45]) (fun h => absurd hh h)
    rw [ea] at this
    exact this
  have end0 : ¬ (kf (fq k l Y) (fi k l Y) = k ∧ df (fq k l Y) (fi k l Y) = 0) → sp_X5_found_151 69 k (fpc k Y : Nat) 0 M9 Q := fun hh => by
    have lsb := lsc_le (tf (fq k l Y)) k (plt (fq k l Y)).length
    have ea : fans k l Y = (fls k l Y).2.2 := by unfold fans; rw [if_neg hh]
    have el : flooks k l Y = (walk k Y Y.length 0).2.1 + (dsc (fq k l Y) k).2 + 1 + (fls k l Y).2.1 := by unfold flooks; rw [if_neg hh]
    have fin : ∀ M10, Ag (· = 69) M9 M10 → (∀ j, j ≠ 41 → j ≠ 45 → gI M10 69 j = gI M9 69 j) → gI M10 69 41 = (((walk k Y Y.length 0).2.1 + (dsc (fq k l Y) k).2 + 1 + (lsc (tf (fq k l Y)) k (plt (fq k l Y)).length).2.1 : Nat) : Int) → gI M10 69 45 = lateI (lsc (tf (fq k l Y)) k (plt (fq k l Y)).length) → ∀ x6, x6 = (fls k l Y).2.2 → sp_X5_found_270 69 x6 M10 Q := by
      intro M10 g10 o10 a41 a45 x6 hx6
      subst hx6
      have g10' : Ag AgF M9 M10 := g10.mono fun b hb => Or.inl hb
      have w10 : WW M10 ((walk k Y Y.length 0).1 ++ [(fpc k Y : Int), dg (fq k l Y) k, (fi k l Y : Int)]) := ⟨by rw [o10 39 (by omega) (by omega)]; exact w9.1, fun j v hv => by rw [g10.I (by omega)]; exact w9.2 j v hv⟩
      have f01 : (fls k l Y).2.2 = 0 ∨ (fls k l Y).2.2 = 1 := lsb.2.2
      have last : ∀ v, v = (fls k l Y).2.2 → sp_X5_found_281 (fls k l Y).2.2 v 69 M10 Q := by
        intro v hv
        subst hv
        unfold sp_X5_found_281
        refine d_say (g10'.k0 k9) w10 wl9 fun M' g o w => ⟨f01, ?_⟩
        have := hQ M' ((G9.trans g10').trans g) (fun j h1 h2 h3 h4 h5 => by rw [o j h1, o10 j h2 h5, o9 j h1 h2 h3 h4 h5]) (by unfold ftold; rw [ea]; exact w) (by rw [o 41 (by omega), a41, el]; rfl) (by rw [o 43 (by omega), o10 43 (by omega) (by omega), b43]) (by rw [o 44 (by omega), o10 44 (by omega) (by omega), b44]) (fun h => absurd h hh) (fun _ => by rw [o 45 (by omega), a45]; rfl)
        rw [ea] at this
        exact this
      unfold sp_X5_found_270
      rcases f01 with f | f
      · exact ⟨fun _ => last 0 f.symm, fun h => absurd f h⟩
      · exact ⟨fun h => by omega, fun _ => last 1 f.symm⟩
    have hpl : (fpc k Y) < 10000 := by omega
    have r179 : ∀ x : Int, x = (if (plt (fq k l Y)).length = 0 then 0 else 1) → sp_X5_found_179 69 k (fpc k Y : Nat) (((plt (fq k l Y)).length : Int) - 1) x M9 Q := by
      intro x hx
      subst hx
      unfold sp_X5_found_179
      refine ⟨(plt (fq k l Y)).length + 2, ?_⟩
      refine d_found_181 (fr := ksum (l.take (fpc k Y))) hpl hll' (plt (fq k l Y)).length (Nat.le_refl _) P9 b41 b45 (by omega) fun M10 g10 o10 a41 a45 => ?_
      have hs : (lsc (tf (fq k l Y)) k (plt (fq k l Y)).length).2.2 = (fls k l Y).2.2 := rfl
      have hlpos : (lsc (tf (fq k l Y)) k (plt (fq k l Y)).length).2.2 = 1 → 1 ≤ (lsc (tf (fq k l Y)) k (plt (fq k l Y)).length).1 := by
        have : ∀ (f : Nat → Int) (n : Nat), (lsc f k n).2.2 = 1 → 1 ≤ (lsc f k n).1 := by
          intro f n
          induction n with
          | zero => intro h; unfold lsc at h; simp at h
          | succ n ih =>
            unfold lsc
            split
            · exact ih
            · intro _; dsimp only; omega
        exact this _ _
      try dsimp only
      have a45' := a45
      unfold lateI at a45'
      rcases lsb.2.2 with f | f
      · rw [if_neg (by omega)] at a45'
        exact ⟨fun _ => fin M10 g10 o10 a41 a45 0 (by rw [← hs]; exact f.symm), fun h => by omega⟩
      · rw [if_pos f] at a45'
        have := hlpos f
        exact ⟨fun h => by omega, fun _ => fin M10 g10 o10 a41 a45 1 (by rw [← hs]; exact f.symm)⟩
    unfold sp_X5_found_151
    refine ⟨fun h => absurd rfl h, fun _ => ?_⟩
    rw [show ((fpc k Y : Nat) : Int).toNat = fpc k Y by omega, P9.1.2.2.2.2, w78]
    refine ⟨by omega, by omega, ?_⟩
    rintro i12 rfl
    exact ⟨fun h => r179 0 (by rw [if_pos (by omega)]), fun h => r179 1 (by rw [if_neg (by omega)])⟩
  refine ⟨by omega, by omega, by omega, by omega, fun h => end0 (fun w => h w.1), fun h => ?_⟩
  exact d_isThere k9 (by omega) P9 (by omega) hi' (fun hd => ⟨fun w => (by omega), fun _ => end1 ⟨h, hd⟩⟩) (fun hd => ⟨fun _ => end0 (fun w => hd w.2), fun w => absurd rfl w⟩)
