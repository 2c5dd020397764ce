/-! ===== a find, the whole ===== -/
def fpc (k : Int) (Y : List (List Pc)) : Nat := (walk k Y Y.length 0).2.2
def fq (k : Int) (l : List Pc) (Y : List (List Pc)) : Pc := pcAt l (fpc k Y)
def fi (k : Int) (l : List Pc) (Y : List (List Pc)) : Nat := (dsc (fq k l Y) k).1
def hit (q : Pc) (i : Nat) (k : Int) : Prop := kf q i = k ∧ df q i = 0
theorem hit_dec (q : Pc) (i : Nat) (k : Int) : hit q i k ∨ ¬ hit q i k := Classical.em _
def fls (k : Int) (l : List Pc) (Y : List (List Pc)) : Nat × Nat × Int := lsc (tf (fq k l Y)) k (plt (fq k l Y)).length
noncomputable def fans (k : Int) (l : List Pc) (Y : List (List Pc)) : Int := if kf (fq k l Y) (fi k l Y) = k ∧ df (fq k l Y) (fi k l Y) = 0 then 1 else (fls k l Y).2.2
noncomputable def ftold (k : Int) (l : List Pc) (Y : List (List Pc)) : List Int := (walk k Y Y.length 0).1 ++ [(fpc k Y : Int), dg (fq k l Y) k, (fi k l Y : Int)] ++ [fans k l Y]
noncomputable def flooks (k : Int) (l : List Pc) (Y : List (List Pc)) : Nat := (walk k Y Y.length 0).2.1 + (dsc (fq k l Y) k).2 + 1 + (if kf (fq k l Y) (fi k l Y) = k ∧ df (fq k l Y) (fi k l Y) = 0 then 0 else (fls k l Y).2.1)
theorem fans01 (k : Int) (l : List Pc) (Y : List (List Pc)) : fans k l Y = 0 ∨ fans k l Y = 1 := by
  unfold fans
  split
  · exact Or.inr rfl
  · exact (lsc_le _ _ _).2.2
theorem c_holds {M : Im} {t p i : Nat} {k : Int} {q : Pc} {l : List Pc} {Q : Int → Im → Prop} (hk : K0 ≤ gz M) (ht : t ∈ TL) (hT : TR M t l) (hK : ksum l ≤ cap t) (hq : l[p]? = some q) (hi : i < (pks q).length)
    (h1 : kf q i = k ∧ df q i = 0 → Q 1 M) (h0 : ¬ (kf q i = k ∧ df q i = 0) → Q 0 M) : sp_X2_holds t ((ksum (l.take p) + i : Nat) : Int) k M Q := by
  have hc := TL_cap ht
  have kin := ksum_in hq
  obtain ⟨a, e1, e2, e3, e4⟩ := hT.2.2.2 p q hq
  obtain ⟨r1, r2⟩ := e4.2.2.2.1 i hi
  unfold sp_X2_holds
  rw [hT.1, TL_l1 ht, TL_l2 ht, show ((ksum (l.take p) + i : Nat) : Int).toNat = ksum (l.take p) + i by omega, r1, r2]
  refine ⟨TL_O ht hk, fun h => by omega, fun _ => ⟨fun h => by omega, fun _ => ⟨by omega, fun h => ⟨Or.inl rfl, h0 (fun w => h w.1)⟩, fun h => ⟨by omega, fun h' => ⟨Or.inl rfl, h0 (fun w => h' w.2)⟩, fun h' => ⟨Or.inr rfl, h1 ⟨h, h'⟩⟩⟩⟩⟩⟩
theorem c_follow {M : Im} {z t : Nat} {k : Int} {l : List Pc} {Y : List (List Pc)} {Q : Im → Prop} (hk : K0 ≤ gz M) (hz : zT z) (hkk : -1000000000000 ≤ k ∧ k ≤ 1000000000000) (ht : t ∈ TL) (hT : TR M t l) (hl : l.length ≤ cap t) (hK : ksum l ≤ cap t) (hTs : tsum l ≤ alen (t + 3)) (hok : ∀ q, q ∈ l → pok q ∧ pmo q) (hL : Lay M Y) (hB : LayB Y) (ho : wok k Y l.length Y.length 0)
    (hQ : ∀ M', Ag (fun b => b = z ∨ b = z + 1) M M' → TW M' z (ftold k l Y) → gI M' z 2 = (flooks k l Y : Nat) → gI M' z 3 = fans k l Y → gI M' z 4 = (fpc k Y : Nat) → gI M' z 5 = ((ksum (l.take (fpc k Y)) + fi k l Y : Nat) : Int) → (¬ (kf (fq k l Y) (fi k l Y) = k ∧ df (fq k l Y) (fi k l Y) = 0) → gI M' z 6 = ((tsum (l.take (fpc k Y)) + (fls k l Y).1 : Nat) : Int)) → fpc k Y < l.length → flooks k l Y ≤ 30000 → Q M') : sp_X3_follow z k (some t) (some 12) Y.length M Q := by
  have hl10 := hL.2.1
  have hcap := TL_cap ht
  unfold sp_X3_follow
  refine ⟨zT_O hz hk, ?_⟩
  rintro M17 rfl M18 rfl M19 rfl M20 rfl
  refine ⟨by omega, ?_⟩
  rintro i21 rfl
  have g0 : Ag (fun b => b = z ∨ b = z + 1) M (pI (pI (pI (pI M z 1 0) z 2 0) z 3 0) z 4 0) := ((((Ag.refl (S := fun b => b = z ∨ b = z + 1)).pI (Or.inl rfl)).pI (Or.inl rfl)).pI (Or.inl rfl)).pI (Or.inl rfl)
  have e1 : gI (pI (pI (pI (pI M z 1 0) z 2 0) z 3 0) z 4 0) z 1 = 0 := by simp [gI_pI, gI_pL, gI_pD, gI_pR, gI_pnw, gI_pcp, gL_pI, gL_pL, gL_pD, gL_pR, gL_pnw, gL_pcp, gD_pI, gD_pL, gD_pD, gD_pR, gD_pnw, gD_pcp, gR_pI, gR_pL, gR_pD, gR_pR, gR_pnw, gR_pcp, gz_pI, gz_pL, gz_pD, gz_pR, gz_pnw, gz_pcp]
  have e2 : gI (pI (pI (pI (pI M z 1 0) z 2 0) z 3 0) z 4 0) z 2 = 0 := by simp [gI_pI, gI_pL, gI_pD, gI_pR, gI_pnw, gI_pcp, gL_pI, gL_pL, gL_pD, gL_pR, gL_pnw, gL_pcp, gD_pI, gD_pL, gD_pD, gD_pR, gD_pnw, gD_pcp, gR_pI, gR_pL, gR_pD, gR_pR, gR_pnw, gR_pcp, gz_pI, gz_pL, gz_pD, gz_pR, gz_pnw, gz_pcp]
  have e3 : gI (pI (pI (pI (pI M z 1 0) z 2 0) z 3 0) z 4 0) z 3 = 0 := by simp [gI_pI, gI_pL, gI_pD, gI_pR, gI_pnw, gI_pcp, gL_pI, gL_pL, gL_pD, gL_pR, gL_pnw, gL_pcp, gD_pI, gD_pL, gD_pD, gD_pR, gD_pnw, gD_pcp, gR_pI, gR_pL, gR_pD, gR_pR, gR_pnw, gR_pcp, gz_pI, gz_pL, gz_pD, gz_pR, gz_pnw, gz_pcp]
  have e4 : gI (pI (pI (pI (pI M z 1 0) z 2 0) z 3 0) z 4 0) z 4 = 0 := by simp [gI_pI, gI_pL, gI_pD, gI_pR, gI_pnw, gI_pcp, gL_pI, gL_pL, gL_pD, gL_pR, gL_pnw, gL_pcp, gD_pI, gD_pL, gD_pD, gD_pR, gD_pnw, gD_pcp, gR_pI, gR_pL, gR_pD, gR_pR, gR_pnw, gR_pcp, gz_pI, gz_pL, gz_pD, gz_pR, gz_pnw, gz_pcp]
  generalize pI (pI (pI (pI M z 1 0) z 2 0) z 3 0) z 4 0 = M0 at g0 e1 e2 e3 e4 ⊢
  refine ⟨Y.length + 1, ?_⟩
  refine c_follow_26 (w := []) (lk := 0) hz hkk hB Y.length 0 (Nat.le_refl _) (g0.k0 hk) (hL.agz hz g0) ho e4 ⟨e1, fun j v h => by simp at h⟩ (by simp; omega) e2 (by omega) fun M1 g1 a3 a4 a2 aw atop al => ?_
  have G1 := g0.trans g1
  rw [List.nil_append] at aw
  rw [Nat.zero_add] at a2
  have hwl := walk_len k Y Y.length 0
  have atop : fpc k Y < l.length := atop
  have hq : l[fpc k Y]? = some (fq k l Y) := by unfold fq pcAt; rw [List.getElem?_eq_getElem atop]; rfl
  have hmem := hok _ (List.mem_of_getElem? hq)
  have T1 := hT.agz ht hz G1
  have kin := ksum_in hq
  have tin := tsum_in hq
  have ft := TL_facts t ht
  have a4' : gI M1 z 4 = (fpc k Y : Nat) := a4
  rw [a4']
  obtain ⟨d1, -⟩ := dst_lt (k := k) hmem.1 hmem.2
  have sl := scan_le (kf (fq k l Y)) k (dst (fq k l Y) k)
  have hll := hmem.1.1.2.2
  have dd : (dsc (fq k l Y) k).1 ≤ dst (fq k l Y) k ∧ (dsc (fq k l Y) k).2 ≤ dst (fq k l Y) k := sl
  refine c_descend (G1.k0 hk) hz ht T1 hl hK hq hmem.1 hmem.2 hkk aw (by omega) a2 (by omega) fun M7 g7 o7 l7 w7 => ?_
  rintro M9 rfl
  have G7 := G1.trans g7
  have c2 : gI (pI M7 z 5 ((ksum (l.take (fpc k Y)) + (dsc (fq k l Y) k).1 : Nat) : Int)) z 2 = (((walk k Y Y.length 0).2.1 + (dsc (fq k l Y) k).2 : Nat) : Int) := by simp only [gI_pI, gI_pL, gI_pD, gI_pR, gI_pnw, gI_pcp, gL_pI, gL_pL, gL_pD, gL_pR, gL_pnw, gL_pcp, gD_pI, gD_pL, gD_pD, gD_pR, gD_pnw, gD_pcp, gR_pI, gR_pL, gR_pD, gR_pR, gR_pnw, gR_pcp, gz_pI, gz_pL, gz_pD, gz_pR, gz_pnw, gz_pcp]; rw [if_neg (by omega)]; exact l7
  rw [c2]
  refine ⟨by omega, ?_⟩
  rintro M10 rfl
  have hne1 : ¬ z + 1 = z := by omega
  have G10 : Ag (fun b => b = z ∨ b = z + 1) M (pI (pI M7 z 5 ((ksum (l.take (fpc k Y)) + (dsc (fq k l Y) k).1 : Nat) : Int)) z 2 ((((walk k Y Y.length 0).2.1 + (dsc (fq k l Y) k).2 : Nat) : Int) + 1)) := (G7.pI (Or.inl rfl)).pI (Or.inl rfl)
  have b2 : gI (pI (pI M7 z 5 ((ksum (l.take (fpc k Y)) + (dsc (fq k l Y) k).1 : Nat) : Int)) z 2 ((((walk k Y Y.length 0).2.1 + (dsc (fq k l Y) k).2 : Nat) : Int) + 1)) z 2 = (((walk k Y Y.length 0).2.1 + (dsc (fq k l Y) k).2 + 1 : Nat) : Int) := by simp [gI_pI, gI_pL, gI_pD, gI_pR, gI_pnw, gI_pcp, gL_pI, gL_pL, gL_pD, gL_pR, gL_pnw, gL_pcp, gD_pI, gD_pL, gD_pD, gD_pR, gD_pnw, gD_pcp, gR_pI, gR_pL, gR_pD, gR_pR, gR_pnw, gR_pcp, gz_pI, gz_pL, gz_pD, gz_pR, gz_pnw, gz_pcp]
  have b5 : gI (pI (pI M7 z 5 ((ksum (l.take (fpc k Y)) + (dsc (fq k l Y) k).1 : Nat) : Int)) z 2 ((((walk k Y Y.length 0).2.1 + (dsc (fq k l Y) k).2 : Nat) : Int) + 1)) z 5 = ((ksum (l.take (fpc k Y)) + fi k l Y : Nat) : Int) := by simp [gI_pI, gI_pL, gI_pD, gI_pR, gI_pnw, gI_pcp, gL_pI, gL_pL, gL_pD, gL_pR, gL_pnw, gL_pcp, gD_pI, gD_pL, gD_pD, gD_pR, gD_pnw, gD_pcp, gR_pI, gR_pL, gR_pD, gR_pR, gR_pnw, gR_pcp, gz_pI, gz_pL, gz_pD, gz_pR, gz_pnw, gz_pcp, fi]
  have bo : ∀ j, j ≠ 2 → j ≠ 5 → gI (pI (pI M7 z 5 ((ksum (l.take (fpc k Y)) + (dsc (fq k l Y) k).1 : Nat) : Int)) z 2 ((((walk k Y Y.length 0).2.1 + (dsc (fq k l Y) k).2 : Nat) : Int) + 1)) z j = gI M7 z j := fun j h1 h2 => by simp [gI_pI, gI_pL, gI_pD, gI_pR, gI_pnw, gI_pcp, gL_pI, gL_pL, gL_pD, gL_pR, gL_pnw, gL_pcp, gD_pI, gD_pL, gD_pD, gD_pR, gD_pnw, gD_pcp, gR_pI, gR_pL, gR_pD, gR_pR, gR_pnw, gR_pcp, gz_pI, gz_pL, gz_pD, gz_pR, gz_pnw, gz_pcp, h1, h2]
  have bn : ∀ j, gI (pI (pI M7 z 5 ((ksum (l.take (fpc k Y)) + (dsc (fq k l Y) k).1 : Nat) : Int)) z 2 ((((walk k Y Y.length 0).2.1 + (dsc (fq k l Y) k).2 : Nat) : Int) + 1)) (z + 1) j = gI M7 (z + 1) j := fun j => by simp only [gI_pI, gI_pL, gI_pD, gI_pR, gI_pnw, gI_pcp, gL_pI, gL_pL, gL_pD, gL_pR, gL_pnw, gL_pcp, gD_pI, gD_pL, gD_pD, gD_pR, gD_pnw, gD_pcp, gR_pI, gR_pL, gR_pD, gR_pR, gR_pnw, gR_pcp, gz_pI, gz_pL, gz_pD, gz_pR, gz_pnw, gz_pcp, hne1, false_and, if_false]
  generalize pI (pI M7 z 5 ((ksum (l.take (fpc k Y)) + (dsc (fq k l Y) k).1 : Nat) : Int)) z 2 ((((walk k Y Y.length 0).2.1 + (dsc (fq k l Y) k).2 : Nat) : Int) + 1) = Mt at G10 b2 b5 bo bn ⊢
  have b3 : gI Mt z 3 = 0 := by rw [bo 3 (by omega) (by omega), o7 3 (by omega) (by omega), a3]; exact e3
  have b4 : gI Mt z 4 = (fpc k Y : Nat) := by rw [bo 4 (by omega) (by omega), o7 4 (by omega) (by omega)]; exact a4
  have bw : TW Mt z ((walk k Y Y.length 0).1 ++ [(fpc k Y : Int), dg (fq k l Y) k, (fi k l Y : Int)]) := ⟨by rw [bo 1 (by omega) (by omega)]; exact w7.1, fun j v hv => by rw [bn]; exact w7.2 j v hv⟩
  have Tt := hT.agz ht hz G10
  have kt := G10.k0 hk
  refine ⟨t, rfl, TL_O ht kt, ?_⟩
  rw [b5]
  have wl : ((walk k Y Y.length 0).1 ++ [(fpc k Y : Int), dg (fq k l Y) k, (fi k l Y : Int)]).length < 34 := by simp; omega
  refine c_holds kt ht Tt hK hq (by show (dsc (fq k l Y) k).1 < _; omega) (fun hh => ⟨fun h => (by omega), fun _ => ?_⟩) (fun hh => ⟨fun _ => ?_, fun h => absurd rfl h⟩)
  · rintro M15 rfl
    have g15 : Ag (fun b => b = z ∨ b = z + 1) Mt (pI Mt z 3 1) := (Ag.refl (S := fun b => b = z ∨ b = z + 1)).pI (Or.inl rfl)
    have ea : fans k l Y = 1 := by unfold fans; rw [if_pos hh]
    have el : flooks k l Y = (walk k Y Y.length 0).2.1 + (dsc (fq k l Y) k).2 + 1 := by unfold flooks; rw [if_pos hh]
    unfold sp_X3_follow_113
    have q3 : gI (pI Mt z 3 1) z 3 = 1 := by simp [gI_pI, gI_pL, gI_pD, gI_pR, gI_pnw, gI_pcp, gL_pI, gL_pL, gL_pD, gL_pR, gL_pnw, gL_pcp, gD_pI, gD_pL, gD_pD, gD_pR, gD_pnw, gD_pcp, gR_pI, gR_pL, gR_pD, gR_pR, gR_pnw, gR_pcp, gz_pI, gz_pL, gz_pD, gz_pR, gz_pnw, gz_pcp]
    have qo : ∀ j, j ≠ 3 → gI (pI Mt z 3 1) z j = gI Mt z j := fun j hj => by simp [gI_pI, gI_pL, gI_pD, gI_pR, gI_pnw, gI_pcp, gL_pI, gL_pL, gL_pD, gL_pR, gL_pnw, gL_pcp, gD_pI, gD_pL, gD_pD, gD_pR, gD_pnw, gD_pcp, gR_pI, gR_pL, gR_pD, gR_pR, gR_pnw, gR_pcp, gz_pI, gz_pL, gz_pD, gz_pR, gz_pnw, gz_pcp, hj]
    rw [q3]
    refine c_tell (g15.k0 kt) hz ⟨by rw [qo 1 (by omega)]; exact bw.1, fun j v hv => by simp only [gI_pI, gI_pL, gI_pD, gI_pR, gI_pnw, gI_pcp, gL_pI, gL_pL, gL_pD, gL_pR, gL_pnw, gL_pcp, gD_pI, gD_pL, gD_pD, gD_pR, gD_pnw, gD_pcp, gR_pI, gR_pL, gR_pD, gR_pR, gR_pnw, gR_pcp, gz_pI, gz_pL, gz_pD, gz_pR, gz_pnw, gz_pcp, hne1, false_and, if_false]; exact bw.2 j v hv⟩ wl fun M' g o w => ?_
    refine hQ M' ((G10.trans g15).trans g) ?_ ?_ ?_ ?_ ?_ (fun h => absurd hh h) atop (by omega)
    · unfold ftold; rw [ea]; exact w
    · rw [o 2 (by omega), qo 2 (by omega), b2, el]
    · rw [o 3 (by omega), q3, ea]
    · rw [o 4 (by omega), qo 4 (by omega), b4]
    · rw [o 5 (by omega), qo 5 (by omega), b5]
  · have lsb := lsc_le (tf (fq k l Y)) k (plt (fq k l Y)).length
    have ea : fans k l Y = (fls k l Y).2.2 := by unfold fans; rw [if_neg hh]
    have el : flooks k l Y = (walk k Y Y.length 0).2.1 + (dsc (fq k l Y) k).2 + 1 + (fls k l Y).2.1 := by unfold flooks; rw [if_neg hh]
    have ft0 := ft.2.2.2.2.2.2.2.2.1
    refine c_seekLate kt hz ht Tt hl hTs hq b4 b2 b3 (by omega) fun M14 g14 o14 p2 p3 p6 => ?_
    have g14' : Ag (fun b => b = z ∨ b = z + 1) Mt M14 := g14.mono (fun b hb => Or.inl hb)
    unfold sp_X3_follow_113
    rw [p3]
    refine c_tell (g14'.k0 kt) hz ⟨by rw [o14 1 (by omega) (by omega) (by omega)]; exact bw.1, fun j v hv => by rw [g14.I (by omega)]; exact bw.2 j v hv⟩ wl fun M' g o w => ?_
    refine hQ M' ((G10.trans g14').trans g) ?_ ?_ ?_ ?_ ?_ (fun _ => ?_) atop ?_
    · unfold ftold; rw [ea]; exact w
    · rw [o 2 (by omega), p2, el]; rfl
    · rw [o 3 (by omega), p3, ea]; rfl
    · rw [o 4 (by omega), o14 4 (by omega) (by omega) (by omega), b4]
    · rw [o 5 (by omega), o14 5 (by omega) (by omega) (by omega), b5]
    · rw [o 6 (by omega), p6]; rfl
    · have : (fls k l Y).2.1 ≤ (plt (fq k l Y)).length := lsb.2.1
      omega
/-! whether two traces tell the same -/
theorem c_same_15 {Q : Int → Im → Prop} {K38 K46 : Im → Prop} {M : Im} {w v : List Int} (hw : TW M 15 w) (hv : TW M 13 v) (hl : w.length = v.length) (hl34 : w.length ≤ 34) (h1 : w = v → K46 M) (h0 : w ≠ v → K38 M) :
    ∀ (d i : Nat), i + d = w.length → w.take i = v.take i → sp_X3_tellsTheSame_15 (d + 1) 15 13 i M Q K38 K46
  | 0, i, h, ht => by
    unfold sp_X3_tellsTheSame_15
    rw [hw.1]
    refine ⟨fun _ => h1 ?_, fun h => by omega⟩
    rw [List.take_of_length_le (by omega), List.take_of_length_le (by omega)] at ht
    exact ht
  | d + 1, i, h, ht => by
    have e1 : w[i]? = some (w[i]'(by omega)) := List.getElem?_eq_getElem (by omega)
    have e2 : v[i]? = some (v[i]'(by omega)) := List.getElem?_eq_getElem (by omega)
    unfold sp_X3_tellsTheSame_15
    rw [hw.1, show ((i : Nat) : Int).toNat = i by omega, hw.2 i _ e1, hv.2 i _ e2]
    have a14 : alen (15 + 1) = 34 := rfl
    have a16 : alen (13 + 1) = 34 := rfl
    refine ⟨fun h => by omega, fun _ => ⟨by omega, by omega, fun he => ⟨by omega, ?_⟩, fun he => h0 fun hh => he ?_⟩⟩
    · rintro i1 rfl
      rw [show (i : Int) + 1 = ((i + 1 : Nat) : Int) by omega]
      refine c_same_15 hw hv hl hl34 h1 h0 d (i + 1) (by omega) ?_
      rw [List.take_add_one, List.take_add_one, ht, e1, e2, he]
    · subst hh; rfl
theorem c_same {M : Im} {w v : List Int} {Q : Int → Im → Prop} (hk : K0 ≤ gz M) (hw : TW M 15 w) (hv : TW M 13 v) (hl34 : w.length ≤ 34) (h1 : w = v → Q 1 M) (h0 : w ≠ v → Q 0 M) : sp_X3_tellsTheSame 15 (some 13) M Q := by
  unfold sp_X3_tellsTheSame
  refine ⟨iO_c hk (by decide) rfl, 13, rfl, iO_c hk (by decide) rfl, ?_⟩
  rw [hw.1, hv.1]
  refine ⟨fun h => ⟨w.length + 1, ?_⟩, fun h => h0 fun e => h (by rw [e])⟩
  exact c_same_15 (Q := Q) (K38 := fun M => Q 0 M) (K46 := fun M => Q 1 M) hw hv (by omega) hl34 h1 h0 w.length 0 (by omega) rfl
