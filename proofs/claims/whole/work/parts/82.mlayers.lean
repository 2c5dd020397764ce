/-! ===== the model's layers ===== -/
/-- levels, one behind the other -/
def MLv (M : Im) (s : List (List Pc)) : Prop := ∀ i y, s[i]? = some y → gI M 72 i = (s.take i).flatten.length ∧ gI M 73 i = (s.take (i + 1)).flatten.length
theorem MLv.ag {S : Nat → Prop} {M M' : Im} {s : List (List Pc)} (h : MLv M s) (g : Ag S M M') (h2 : ¬ S 72) (h3 : ¬ S 73) : MLv M' s := fun i y hy => by
  rw [g.I h2, g.I h3]; exact h i y hy
theorem flat_take_succ {s : List (List Pc)} {i : Nat} {y : List Pc} (h : s[i]? = some y) : (s.take (i + 1)).flatten = (s.take i).flatten ++ y := by
  rw [List.take_add_one, h]; simp
theorem flat_get {s : List (List Pc)} {i k : Nat} {y : List Pc} {q : Pc} (h : s[i]? = some y) (hq : y[k]? = some q) : s.flatten[(s.take i).flatten.length + k]? = some q := by
  have hi := (List.getElem?_eq_some_iff.mp h).1
  have hk := (List.getElem?_eq_some_iff.mp hq).1
  have e : s.flatten = (s.take (i + 1)).flatten ++ (s.drop (i + 1)).flatten := by rw [← List.flatten_append, List.take_append_drop]
  rw [e, flat_take_succ h, List.getElem?_append_left (by rw [List.length_append]; omega), List.getElem?_append_right (by omega), Nat.add_sub_cancel_left]
  exact hq
theorem d_layersAnew_50 {pre : List (List Pc)} {l : List Pc} {Q : Im → Prop} {K88 : Nat → Int → Im → Prop} (hlast : pre[pre.length - 1]? = some l) (hp0 : 1 ≤ pre.length) (hp : pre.length ≤ 19) (hA10 : pre.flatten.length ≤ 9000) (hs : ksum pre.flatten ≤ 12000) (hok : ∀ q, q ∈ l → 1 ≤ (pks q).length) (hl : l.length ≤ 600) :
    ∀ (d k : Nat) {M : Im}, k + d = l.length → K0 ≤ gz M → MA M pre.flatten → MLv M pre → gI M 69 9 = ((pre.length - 1 : Nat) : Int) → (∀ M', Ag (· = 71) M M' → (∀ j, k ≤ j → j < l.length → gL M' 71 j = fk l j) → (∀ j, j < k → gL M' 71 j = gL M 71 j) → K88 69 l.length M') →
    sp_X5_layersAnew_50 (d + 1) 69 l.length k M Q K88
  | 0, k, M, h, hk, hA, hV, h9, hQ => by
    unfold sp_X5_layersAnew_50
    exact ⟨fun _ => hQ M Ag.refl (fun j h1 h2 => by omega) (fun _ _ => rfl), fun h => by omega⟩
  | d + 1, k, M, h, hk, hA, hV, h9, hQ => by
    have w71 : alen 71 = 5000 := rfl
    have w72 : alen 72 = 20 := rfl
    have w75 : alen 75 = 10000 := rfl
    have w82 : alen 82 = 12000 := rfl
    have hq : l[k]? = some (l[k]'(by omega)) := List.getElem?_eq_getElem (by omega)
    have hmem := List.mem_of_getElem? hq
    generalize l[k]'(by omega) = q at hq hmem
    have hfq := flat_get hlast hq
    have hP := hA _ _ hfq
    have hlen := hok q hmem
    have kin := ksum_in hfq
    obtain ⟨v1, v2⟩ := hV _ _ hlast
    have hflt := (List.getElem?_eq_some_iff.mp hfq).1
    generalize hst : (pre.take (pre.length - 1)).flatten.length = st at *
    have r0 := (hP.2.2.1 0 (by omega)).1
    rw [Nat.add_zero] at r0
    have a75 := hP.1.2.1
    unfold sp_X5_layersAnew_50
    rw [h9, show ((pre.length - 1 : Nat) : Int).toNat = pre.length - 1 by omega, v1, show ((st : Nat) : Int) + ((k : Nat) : Int) = ((st + k : Nat) : Int) by omega, show ((st + k : Nat) : Int).toNat = st + k by omega, a75, show ((k : Nat) : Int).toNat = k by omega, show ((ksum (pre.flatten.take (st + k)) : Nat) : Int).toNat = ksum (pre.flatten.take (st + k)) by omega, r0, w71, w72, w75, w82]
    refine ⟨fun h => by omega, fun _ => ⟨by omega, by omega, by omega, by omega, by omega, by omega, by omega, ?_⟩⟩
    rintro M2 rfl
    refine ⟨by omega, ?_⟩
    rintro i3 rfl
    rw [show (k : Int) + 1 = ((k + 1 : Nat) : Int) by omega]
    have g : Ag (· = 71) M (pL M 71 k (kf q 0)) := (Ag.refl (S := (· = 71))).pL rfl
    refine d_layersAnew_50 hlast hp0 hp hA10 hs hok hl d (k + 1) (by omega) (g.k0 hk) (hA.ag g (fun b h1 h2 => by omega)) (hV.ag g (by omega) (by omega)) (by rw [g.I (by omega)]; exact h9) fun M' g' h1 h2 => hQ M' (g.trans g') (fun j j1 j2 => ?_) (fun j hj => ?_)
    · by_cases e : j = k
      · subst e
        rw [h2 j (by omega)]
        simp [gI_pI, gI_pL, gI_pD, gI_pR, gI_pnw, gI_pcp, gL_pI, gL_pL, gL_pD, gL_pR, gL_pnw, gL_pcp, gD_pI, gD_pL, gD_pD, gD_pR, gD_pnw, gD_pcp, gR_pI, gR_pL, gR_pD, gR_pR, gR_pnw, gR_pcp, gz_pI, gz_pL, gz_pD, gz_pR, gz_pnw, gz_pcp, fk, hq]
      · exact h1 j (by omega) j2
    · rw [h2 j (by omega)]
      simp only [gI_pI, gI_pL, gI_pD, gI_pR, gI_pnw, gI_pcp, gL_pI, gL_pL, gL_pD, gL_pR, gL_pnw, gL_pcp, gD_pI, gD_pL, gD_pD, gD_pR, gD_pnw, gD_pcp, gR_pI, gR_pL, gR_pD, gR_pR, gR_pnw, gR_pcp, gz_pI, gz_pL, gz_pD, gz_pR, gz_pnw, gz_pcp]
      rw [if_neg (by omega)]
theorem okF_fk_mkk {E : Int} {f : Nat → Int} {n : Nat} (hf : okF f n) : okF (fk (mk E E f n)) (mk E E f n).length := okF_fk_mk hf
def AgN (b : Nat) : Prop := (b = 69) ∨ (71 ≤ b ∧ b ≤ 82) ∨ b = 84
theorem d_layersAnew_5 {E : Int} {Q K168 : Im → Prop} (hE : 0 ≤ E ∧ E ≤ 40) :
    ∀ (d : Nat) {M : Im} {pre : List (List Pc)} {l : List Pc}, pre[pre.length - 1]? = some l → 1 ≤ pre.length → pre.length + d ≤ 18 → l.length ≤ 2 ^ d → l.length ≤ 600 → pre.flatten.length + 2 * l.length ≤ 9000 → ksum pre.flatten + 2 * l.length + d ≤ 12000 → (∀ q, q ∈ l → pok q) → okF (fk l) l.length →
    K0 ≤ gz M → gI M 69 2 = E → MA M pre.flatten → MLv M pre → gI M 69 9 = ((pre.length - 1 : Nat) : Int) →
    (∀ M', Ag AgN M M' → (∀ j, j ≠ 8 → j ≠ 9 → gI M' 69 j = gI M 69 j) → MA M' (pre ++ lys E d l).flatten → MLv M' (pre ++ lys E d l) → gI M' 69 9 = ((pre.length - 1 + (lys E d l).length : Nat) : Int) → K168 M') →
    sp_X5_layersAnew_5 (d + 1) 69 M Q K168 := by
  intro d
  have w72 : alen 72 = 20 := rfl
  have w73 : alen 73 = 20 := rfl
  have w75 : alen 75 = 10000 := rfl
  have w76 : alen 76 = 10000 := rfl
  induction d with
  | zero =>
    intro M pre l hlast hp0 hp hl2 hl hA10 hs hok hf hk hE2 hA hV h9 hQ
    obtain ⟨v1, v2⟩ := hV _ _ hlast
    rw [flat_take_succ hlast, List.length_append] at v2
    have : l.length ≤ 1 := hl2
    unfold sp_X5_layersAnew_5
    rw [h9, show ((pre.length - 1 : Nat) : Int).toNat = pre.length - 1 by omega, v1, v2, w72, w73]
    have hfl : (pre.take (pre.length - 1)).flatten.length ≤ pre.flatten.length := by
      have e : pre.flatten = (pre.take (pre.length - 1)).flatten ++ (pre.drop (pre.length - 1)).flatten := by rw [← List.flatten_append, List.take_append_drop]
      rw [e, List.length_append]; omega
    refine ⟨by omega, by omega, by omega, fun _ => ?_, fun h => by omega⟩
    have := hQ M Ag.refl (fun _ _ _ => rfl) (by unfold lys; rw [List.append_nil]; exact hA) (by unfold lys; rw [List.append_nil]; exact hV) (by unfold lys; simpa using h9)
    exact this
  | succ d ih =>
    intro M pre l hlast hp0 hp hl2 hl hA10 hs hok hf hk hE2 hA hV h9 hQ
    obtain ⟨v1, v2⟩ := hV _ _ hlast
    have efl : (pre.take (pre.length - 1 + 1)).flatten = pre.flatten := by rw [Nat.sub_add_cancel hp0, List.take_length]
    have hfs := flat_take_succ hlast
    rw [efl] at v2 hfs
    have hfl := congrArg List.length hfs
    rw [List.length_append] at hfl
    unfold sp_X5_layersAnew_5
    rw [h9, show ((pre.length - 1 : Nat) : Int).toNat = pre.length - 1 by omega, v1, v2, w72, w73]
    unfold lys at hQ
    refine ⟨by omega, by omega, by omega, fun h => ?_, fun h => ⟨by omega, by omega, by omega, ?_⟩⟩
    · rw [if_neg (by omega), List.append_nil] at hQ
      exact hQ M Ag.refl (fun _ _ _ => rfl) hA hV (by simpa using h9)
    · rw [if_pos (by omega)] at hQ
      rintro i1 rfl
      rw [show ((pre.flatten.length : Nat) : Int) - (((pre.take (pre.length - 1)).flatten.length : Nat) : Int) = ((l.length : Nat) : Int) by omega]
      refine ⟨l.length + 1, ?_⟩
      refine d_layersAnew_50 hlast hp0 (by omega) (by omega) (by omega) (fun q hq => (hok q hq).1.2.1) hl l.length 0 (by omega) hk hA hV h9 fun M1 g1 p1 _ => ?_
      have A1 := hA.ag g1 (fun b h1 h2 => by omega)
      have V1 := hV.ag g1 (by omega) (by omega)
      have n9 : gI M1 69 9 = ((pre.length - 1 : Nat) : Int) := by rw [g1.I (by omega)]; exact h9
      obtain ⟨v3, v4⟩ := V1 _ _ hlast
      rw [efl] at v4
      unfold sp_X5_layersAnew_88
      rw [n9, show ((pre.length - 1 : Nat) : Int).toNat = pre.length - 1 by omega, v4, w73]
      refine ⟨by omega, by omega, ?_⟩
      rintro i4 rfl
      refine ⟨by omega, ?_⟩
      rintro i5 rfl
      have hfpos : pre.flatten.length - 1 < pre.flatten.length := by omega
      have hq := List.getElem?_eq_getElem hfpos
      generalize pre.flatten[pre.flatten.length - 1] = q at hq
      have hP := A1 _ _ hq
      have ks := ksum_succ hq
      rw [Nat.sub_add_cancel (by omega), List.take_length] at ks
      rw [show (((pre.flatten.length : Nat) : Int) - 1).toNat = pre.flatten.length - 1 by omega, hP.1.2.1, hP.1.2.2.1, w75, w76]
      refine ⟨by omega, by omega, by omega, ?_⟩
      rw [show ((ksum (pre.flatten.take (pre.flatten.length - 1)) : Nat) : Int) + (((pks q).length : Nat) : Int) = ((ksum pre.flatten : Nat) : Int) by omega]
      have hlen := len_mkGo E E l.length (fk l) l.length
      have hlen' : (mk E E (fk l) l.length).length ≤ l.length := hlen
      have hhalf : 2 * (mk E E (fk l) l.length).length ≤ l.length + 1 := len_mkGo_half hE.1 l.length (fk l) l.length hf
      have hks : ksum (mk E E (fk l) l.length) = l.length := ksum_mkGo E E l.length (fk l) l.length (Nat.le_refl _)
      refine d_make (E := E) (f := fk l) (g1.k0 hk) (by rw [g1.I (by omega)]; exact hE2) hE (Or.inl rfl) (by omega) A1 (by omega) (by omega) hf (fun i hi => p1 i (Nat.zero_le _) hi) fun M6 g6 c6 A6 => ?_
      have emk : mkk 1 E (fk l) l.length = mk E E (fk l) l.length := by unfold mkk; rw [if_neg (by decide)]
      rw [emk] at A6 ⊢
      have V6 := V1.ag g6 (by unfold AgP; omega) (by unfold AgP; omega)
      have m9 : gI M6 69 9 = ((pre.length - 1 : Nat) : Int) := by rw [c6 9 (by omega)]; exact n9
      rw [m9]
      refine ⟨by omega, ?_⟩
      rintro M8 rfl
      have e8 : gI (pI M6 69 9 (((pre.length - 1 : Nat) : Int) + 1)) 69 9 = ((pre.length : Nat) : Int) := by simp [gI_pI, gI_pL, gI_pD, gI_pR, gI_pnw, gI_pcp, gL_pI, gL_pL, gL_pD, gL_pR, gL_pnw, gL_pcp, gD_pI, gD_pL, gD_pD, gD_pR, gD_pnw, gD_pcp, gR_pI, gR_pL, gR_pD, gR_pR, gR_pnw, gR_pcp, gz_pI, gz_pL, gz_pD, gz_pR, gz_pnw, gz_pcp]; omega
      rw [e8, show ((pre.length : Nat) : Int).toNat = pre.length by omega, w72]
      refine ⟨by omega, ?_⟩
      rintro M9 rfl
      have e9 : gI (pI (pI M6 69 9 (((pre.length - 1 : Nat) : Int) + 1)) 72 pre.length ((pre.flatten.length : Nat) : Int)) 69 9 = ((pre.length : Nat) : Int) := by simp [gI_pI, gI_pL, gI_pD, gI_pR, gI_pnw, gI_pcp, gL_pI, gL_pL, gL_pD, gL_pR, gL_pnw, gL_pcp, gD_pI, gD_pL, gD_pD, gD_pR, gD_pnw, gD_pcp, gR_pI, gR_pL, gR_pD, gR_pR, gR_pnw, gR_pcp, gz_pI, gz_pL, gz_pD, gz_pR, gz_pnw, gz_pcp]; omega
      rw [e9, show ((pre.length : Nat) : Int).toNat = pre.length by omega]
      refine ⟨by omega, by omega, ?_⟩
      rintro M10 rfl
      have G : Ag AgN M (pI (pI (pI M6 69 9 (((pre.length - 1 : Nat) : Int) + 1)) 72 pre.length ((pre.flatten.length : Nat) : Int)) 73 pre.length (((pre.flatten.length : Nat) : Int) + ((mk E E (fk l) l.length).length : Nat))) :=
        ((((g1.mono (S' := AgN) (fun b hb => Or.inr (Or.inl (by omega)))).trans (g6.mono (fun b hb => by unfold AgP at hb; unfold AgN; omega))).pI (Or.inl rfl)).pI (Or.inr (Or.inl (by omega)))).pI (Or.inr (Or.inl (by omega)))
      have F : ∀ b x, b ≠ 69 → b ≠ 72 → b ≠ 73 → gI (pI (pI (pI M6 69 9 (((pre.length - 1 : Nat) : Int) + 1)) 72 pre.length ((pre.flatten.length : Nat) : Int)) 73 pre.length (((pre.flatten.length : Nat) : Int) + ((mk E E (fk l) l.length).length : Nat))) b x = gI M6 b x := fun b x h1 h2 h3 => by simp [gI_pI, gI_pL, gI_pD, gI_pR, gI_pnw, gI_pcp, gL_pI, gL_pL, gL_pD, gL_pR, gL_pnw, gL_pcp, gD_pI, gD_pL, gD_pD, gD_pR, gD_pnw, gD_pcp, gR_pI, gR_pL, gR_pD, gR_pR, gR_pnw, gR_pcp, gz_pI, gz_pL, gz_pD, gz_pR, gz_pnw, gz_pcp, h1, h2, h3]
      have FL : ∀ b x, gL (pI (pI (pI M6 69 9 (((pre.length - 1 : Nat) : Int) + 1)) 72 pre.length ((pre.flatten.length : Nat) : Int)) 73 pre.length (((pre.flatten.length : Nat) : Int) + ((mk E E (fk l) l.length).length : Nat))) b x = gL M6 b x := fun b x => rfl
      have F69 : ∀ x, x ≠ 9 → gI (pI (pI (pI M6 69 9 (((pre.length - 1 : Nat) : Int) + 1)) 72 pre.length ((pre.flatten.length : Nat) : Int)) 73 pre.length (((pre.flatten.length : Nat) : Int) + ((mk E E (fk l) l.length).length : Nat))) 69 x = gI M6 69 x := fun x h1 => by simp [gI_pI, gI_pL, gI_pD, gI_pR, gI_pnw, gI_pcp, gL_pI, gL_pL, gL_pD, gL_pR, gL_pnw, gL_pcp, gD_pI, gD_pL, gD_pD, gD_pR, gD_pnw, gD_pcp, gR_pI, gR_pL, gR_pD, gR_pR, gR_pnw, gR_pcp, gz_pI, gz_pL, gz_pD, gz_pR, gz_pnw, gz_pcp, h1]
      have F9 : gI (pI (pI (pI M6 69 9 (((pre.length - 1 : Nat) : Int) + 1)) 72 pre.length ((pre.flatten.length : Nat) : Int)) 73 pre.length (((pre.flatten.length : Nat) : Int) + ((mk E E (fk l) l.length).length : Nat))) 69 9 = ((pre.length : Nat) : Int) := by simp [gI_pI, gI_pL, gI_pD, gI_pR, gI_pnw, gI_pcp, gL_pI, gL_pL, gL_pD, gL_pR, gL_pnw, gL_pcp, gD_pI, gD_pL, gD_pD, gD_pR, gD_pnw, gD_pcp, gR_pI, gR_pL, gR_pD, gR_pR, gR_pnw, gR_pcp, gz_pI, gz_pL, gz_pD, gz_pR, gz_pnw, gz_pcp]; omega
      have F72 : ∀ x, gI (pI (pI (pI M6 69 9 (((pre.length - 1 : Nat) : Int) + 1)) 72 pre.length ((pre.flatten.length : Nat) : Int)) 73 pre.length (((pre.flatten.length : Nat) : Int) + ((mk E E (fk l) l.length).length : Nat))) 72 x = if x = pre.length then ((pre.flatten.length : Nat) : Int) else gI M6 72 x := fun x => by simp [gI_pI, gI_pL, gI_pD, gI_pR, gI_pnw, gI_pcp, gL_pI, gL_pL, gL_pD, gL_pR, gL_pnw, gL_pcp, gD_pI, gD_pL, gD_pD, gD_pR, gD_pnw, gD_pcp, gR_pI, gR_pL, gR_pD, gR_pR, gR_pnw, gR_pcp, gz_pI, gz_pL, gz_pD, gz_pR, gz_pnw, gz_pcp]
      have F73 : ∀ x, gI (pI (pI (pI M6 69 9 (((pre.length - 1 : Nat) : Int) + 1)) 72 pre.length ((pre.flatten.length : Nat) : Int)) 73 pre.length (((pre.flatten.length : Nat) : Int) + ((mk E E (fk l) l.length).length : Nat))) 73 x = if x = pre.length then ((pre.flatten.length : Nat) : Int) + ((mk E E (fk l) l.length).length : Nat) else gI M6 73 x := fun x => by simp [gI_pI, gI_pL, gI_pD, gI_pR, gI_pnw, gI_pcp, gL_pI, gL_pL, gL_pD, gL_pR, gL_pnw, gL_pcp, gD_pI, gD_pL, gD_pD, gD_pR, gD_pnw, gD_pcp, gR_pI, gR_pL, gR_pD, gR_pR, gR_pnw, gR_pcp, gz_pI, gz_pL, gz_pD, gz_pR, gz_pnw, gz_pcp]
      generalize pI (pI (pI M6 69 9 (((pre.length - 1 : Nat) : Int) + 1)) 72 pre.length ((pre.flatten.length : Nat) : Int)) 73 pre.length (((pre.flatten.length : Nat) : Int) + ((mk E E (fk l) l.length).length : Nat)) = M10 at G F FL F69 F9 F72 F73
      have A10 : MA M10 (pre ++ [mk E E (fk l) l.length]).flatten := by
        rw [List.flatten_append]
        simp only [List.flatten_cons, List.flatten_nil, List.append_nil]
        intro p r hr
        exact (A6 p r hr).frame (fun b h1 h2 => F b p (by omega) (by omega) (by omega)) (fun b h1 h2 => FL b p) (fun i _ => ⟨FL _ _, F 84 _ (by omega) (by omega) (by omega)⟩) (fun i _ => FL _ _)
      have V10 : MLv M10 (pre ++ [mk E E (fk l) l.length]) := by
        intro i y hy
        rw [F72, F73]
        rcases Nat.lt_or_ge i pre.length with hi | hi
        · rw [List.getElem?_append_left hi] at hy
          rw [if_neg (by omega), if_neg (by omega), List.take_append_of_le_length (by omega), List.take_append_of_le_length (by omega)]
          exact V6 i y hy
        · have hi' : i = pre.length := by
            have := (List.getElem?_eq_some_iff.mp hy).1
            simp at this; omega
          subst hi'
          rw [List.getElem?_append_right (Nat.le_refl _), Nat.sub_self] at hy
          cases hy
          rw [if_pos rfl, if_pos rfl, List.take_left]
          refine ⟨rfl, ?_⟩
          rw [show pre.length + 1 = (pre ++ [mk E E (fk l) l.length]).length by simp, List.take_length, List.flatten_append, List.length_append]
          simp
      have hpl : (pre ++ [mk E E (fk l) l.length]).length = pre.length + 1 := by simp
      have hok' : ∀ q, q ∈ mk E E (fk l) l.length → pok q := fun q hq => pok_mkGo hE _ _ _ hf (by omega) q hq
      have h2d : 2 ^ (d + 1) = 2 * 2 ^ d := by rw [Nat.pow_succ]; omega
      have efl2 : (pre ++ [mk E E (fk l) l.length]).flatten = pre.flatten ++ mk E E (fk l) l.length := by rw [List.flatten_append]; simp
      refine ih (pre := pre ++ [mk E E (fk l) l.length]) (l := mk E E (fk l) l.length) (by rw [hpl, Nat.add_sub_cancel, List.getElem?_append_right (Nat.le_refl _), Nat.sub_self]; rfl) (by omega) (by omega) (by omega) (by omega) (by rw [efl2, List.length_append]; omega) (by rw [efl2, ksum_app, hks]; omega) hok' (okF_fk_mk hf) (G.k0 hk) (by rw [F69 2 (by omega), c6 2 (by omega), g1.I (by omega)]; exact hE2) A10 V10 (by rw [F9, hpl, Nat.add_sub_cancel]) fun M' g' o' A' V' n' => ?_
      rw [List.append_assoc, List.singleton_append] at A' V'
      refine hQ M' (G.trans g') (fun j j8 j9 => by rw [o' j j8 j9, F69 j j9, c6 j j8, g1.I (by omega)]) A' V' ?_
      rw [n', hpl, List.length_cons]
      omega
theorem d_layersAnew {M : Im} {E : Int} {l : List Pc} {Q : Im → Prop} (hE : 0 ≤ E ∧ E ≤ 40) (hl : l.length ≤ 590) (hs : ksum l ≤ 590) (hok : ∀ q, q ∈ l → pok q) (hf : okF (fk l) l.length) (hk : K0 ≤ gz M) (hE2 : gI M 69 2 = E) (hA : MA M l) (h72 : gI M 72 0 = 0) (h73 : gI M 73 0 = l.length)
    (hQ : ∀ M', Ag AgN M M' → (∀ j, j ≠ 8 → j ≠ 9 → gI M' 69 j = gI M 69 j) → MA M' (l :: lys E 10 l).flatten → MLv M' (l :: lys E 10 l) → gI M' 69 9 = ((lys E 10 l).length : Nat) → Q M') : sp_X5_layersAnew 69 M Q := by
  unfold sp_X5_layersAnew
  refine ⟨iO_c hk (by decide) rfl, ?_⟩
  rintro M11 rfl
  have g : Ag (· = 69) M (pI M 69 9 0) := (Ag.refl (S := (· = 69))).pI rfl
  refine ⟨10 + 1, ?_⟩
  refine d_layersAnew_5 (Q := Q) (K168 := fun M => Q M) hE 10 (pre := [l]) (l := l) rfl (by simp) (by simp) (by omega) (by omega) (by simp; omega) (by simp; omega) hok hf (g.k0 hk) (by simp only [gI_pI, gI_pL, gI_pD, gI_pR, gI_pnw, gI_pcp, gL_pI, gL_pL, gL_pD, gL_pR, gL_pnw, gL_pcp, gD_pI, gD_pL, gD_pD, gD_pR, gD_pnw, gD_pcp, gR_pI, gR_pL, gR_pD, gR_pR, gR_pnw, gR_pcp, gz_pI, gz_pL, gz_pD, gz_pR, gz_pnw, gz_pcp]; rw [if_neg (by omega)]; exact hE2) (by simp only [List.flatten_cons, List.flatten_nil, List.append_nil]; exact hA.ag g (fun b h1 h2 => by omega)) (fun i y hy => ?_) (by simp [gI_pI, gI_pL, gI_pD, gI_pR, gI_pnw, gI_pcp, gL_pI, gL_pL, gL_pD, gL_pR, gL_pnw, gL_pcp, gD_pI, gD_pL, gD_pD, gD_pR, gD_pnw, gD_pcp, gR_pI, gR_pL, gR_pD, gR_pR, gR_pnw, gR_pcp, gz_pI, gz_pL, gz_pD, gz_pR, gz_pnw, gz_pcp]) fun M' g' o' A' V' n' => ?_
  · have : i = 0 := by
      have := (List.getElem?_eq_some_iff.mp hy).1
      simp at this; exact this
    subst this
    rw [g.I (by omega), g.I (by omega)]
    exact ⟨by simpa using h72, by simpa using h73⟩
  · refine hQ M' ((g.mono (fun b hb => Or.inl hb)).trans g') (fun j j8 j9 => by rw [o' j j8 j9]; simp only [gI_pI, gI_pL, gI_pD, gI_pR, gI_pnw, gI_pcp, gL_pI, gL_pL, gL_pD, gL_pR, gL_pnw, gL_pcp, gD_pI, gD_pL, gD_pD, gD_pR, gD_pnw, gD_pcp, gR_pI, gR_pL, gR_pD, gR_pR, gR_pnw, gR_pcp, gz_pI, gz_pL, gz_pD, gz_pR, gz_pnw, gz_pcp]; rw [if_neg (by omega)]) A' V' (by rw [n']; simp)
