/-! ===== the model gathers, and counts ===== -/
def mq (q : Pc) : List Int := mg (pks q) (plt q)
def GT (l : List Pc) : List Int := l.flatMap mq
def dsj (q : Pc) : Prop := ∀ t, t ∈ plt q → ∀ x, x ∈ pks q → t ≠ x.1
theorem d_isThere {M : Im} {p fr i : Nat} {q : Pc} {Q : Int → Im → Prop} (hk : K0 ≤ gz M) (hp : p < 10000) (hP : MP M p fr q) (hfr : fr + (pks q).length ≤ 12000) (hi : i < (pks q).length) (h1 : df q i = 0 → Q 1 M) (h0 : df q i ≠ 0 → Q 0 M) : sp_X5_isThere 69 p i M Q := by
  have w75 : alen 75 = 10000 := rfl
  have w84 : alen 84 = 12000 := rfl
  unfold sp_X5_isThere
  rw [show ((p : Nat) : Int).toNat = p by omega, hP.1.2.1, show ((fr : Nat) : Int) + ((i : Nat) : Int) = ((fr + i : Nat) : Int) by omega, show ((fr + i : Nat) : Int).toNat = fr + i by omega, (hP.2.2.1 i hi).2, w75, w84]
  exact ⟨iO_c hk (by decide) rfl, by omega, by omega, by omega, by omega, fun h => ⟨Or.inl rfl, h0 h⟩, fun h => ⟨Or.inr rfl, h1 h⟩⟩
theorem getElem?_drop0 {α : Type} {l : List α} {i : Nat} {x : α} {xs : List α} (h : x :: xs = l.drop i) : l[i]? = some x ∧ xs = l.drop (i + 1) := by
  have h1 : (l.drop i)[0]? = some x := by rw [← h]; rfl
  rw [List.getElem?_drop, Nat.add_zero] at h1
  refine ⟨h1, ?_⟩
  have hi := (List.getElem?_eq_some_iff.mp h1)
  rw [List.drop_eq_getElem_cons hi.1] at h
  exact (List.cons.inj h).2
theorem d_gather_4 {p fr : Nat} {q : Pc} {Q K173 : Im → Prop} (hp : p < 10000) (hfr : fr + (pks q).length ≤ 12000) (hll : (plt q).length ≤ 16) (hd : dsj q) :
    ∀ (n : Nat) (ks : List (Int × Int)) (ts : List Int) (i j g : Nat) {M : Im}, ks.length + ts.length = n → i + ks.length = (pks q).length → j + ts.length = (plt q).length → ks = (pks q).drop i → ts = (plt q).drop j → K0 ≤ gz M → MP M p fr q → gI M 69 26 = (g : Nat) → g + (mg ks ts).length ≤ 4000 →
    (∀ M', Ag (fun b => b = 69 ∨ b = 71) M M' → (∀ k, k ≠ 26 → gI M' 69 k = gI M 69 k) → (∀ k, gL M' 69 k = gL M 69 k) → gI M' 69 26 = ((g + (mg ks ts).length : Nat) : Int) → (∀ k, k < g → gL M' 71 k = gL M 71 k) → (∀ k x, (mg ks ts)[k]? = some x → gL M' 71 (g + k) = x) → K173 M') →
    sp_X5_gather_4 (n + 1) 69 p i j M Q K173 := by
  intro n
  have w71 : alen 71 = 5000 := rfl
  have w75 : alen 75 = 10000 := rfl
  have w76 : alen 76 = 10000 := rfl
  have w78 : alen 78 = 10000 := rfl
  have w82 : alen 82 = 12000 := rfl
  have w83 : alen 83 = 160000 := rfl
  induction n with
  | zero =>
    intro ks ts i j g M hn hi hj hks hts hk hP h26 hg hQ
    obtain rfl : ks = [] := List.eq_nil_of_length_eq_zero (by omega)
    obtain rfl : ts = [] := List.eq_nil_of_length_eq_zero (by omega)
    rw [mg_nil] at hQ
    unfold sp_X5_gather_4
    rw [show ((p : Nat) : Int).toNat = p by omega, hP.1.2.2.1, hP.1.2.2.2.2, w76, w78]
    simp only [List.length_nil] at hi hj hQ
    refine ⟨by omega, fun h => by omega, fun _ => ⟨by omega, fun _ => ?_, fun h => by omega⟩⟩
    exact hQ M Ag.refl (fun _ _ => rfl) (fun _ => rfl) (by simpa using h26) (fun _ _ => rfl) (fun k x h => by simp at h)
  | succ n ih =>
    intro ks ts i j g M hn hi hj hks hts hk hP h26 hg hQ
    have a75 := hP.1.2.1
    have a76 := hP.1.2.2.1
    have a78 := hP.1.2.2.2.2
    -- after a put
    have putStep : ∀ (v : Int) (ks' : List (Int × Int)) (ts' : List Int) (i' j' : Nat) (own : Int), mg ks ts = v :: mg ks' ts' → ks'.length + ts'.length = n → i' + ks'.length = (pks q).length → j' + ts'.length = (plt q).length → ks' = (pks q).drop i' → ts' = (plt q).drop j' → (own = 1 ∧ i' = i + 1 ∧ j' = j ∨ own = 0 ∧ i' = i ∧ j' = j + 1) →
        sp_X5_gather_133 69 p i j own v (gI M 69 26) 71 M Q (fun (x0 : Nat) (x1 : Int) (x2 : Int) (x3 : Int) (M : Im) => sp_X5_gather_4 (n + 1) x0 x1 x2 x3 M Q K173) K173 := by
      intro v ks' ts' i' j' own em h1 h2 h3 h4 h5 h6
      rw [em] at hQ hg
      rw [List.length_cons] at hQ hg
      unfold sp_X5_gather_133
      rw [h26, w71, show ((g : Nat) : Int).toNat = g by omega]
      refine ⟨by omega, ?_⟩
      rintro M3 rfl
      have e26 : gI (pL M 71 g v) 69 26 = (g : Nat) := h26
      rw [e26]
      refine ⟨by omega, ?_⟩
      rintro M4 rfl
      have G : Ag (fun b => b = 69 ∨ b = 71) M (pI (pL M 71 g v) 69 26 ((g : Int) + 1)) := ((Ag.refl (S := fun b => b = 69 ∨ b = 71)).pL (Or.inr rfl)).pI (Or.inl rfl)
      have f26 : gI (pI (pL M 71 g v) 69 26 ((g : Int) + 1)) 69 26 = ((g + 1 : Nat) : Int) := by simp [gI_pI, gI_pL, gI_pD, gI_pR, gI_pnw, gI_pcp, gL_pI, gL_pL, gL_pD, gL_pR, gL_pnw, gL_pcp, gD_pI, gD_pL, gD_pD, gD_pR, gD_pnw, gD_pcp, gR_pI, gR_pL, gR_pD, gR_pR, gR_pnw, gR_pcp, gz_pI, gz_pL, gz_pD, gz_pR, gz_pnw, gz_pcp]
      have fo : ∀ k, k ≠ 26 → gI (pI (pL M 71 g v) 69 26 ((g : Int) + 1)) 69 k = gI M 69 k := fun k hk => by simp [gI_pI, gI_pL, gI_pD, gI_pR, gI_pnw, gI_pcp, gL_pI, gL_pL, gL_pD, gL_pR, gL_pnw, gL_pcp, gD_pI, gD_pL, gD_pD, gD_pR, gD_pnw, gD_pcp, gR_pI, gR_pL, gR_pD, gR_pR, gR_pnw, gR_pcp, gz_pI, gz_pL, gz_pD, gz_pR, gz_pnw, gz_pcp, hk]
      have fl : ∀ k, gL (pI (pL M 71 g v) 69 26 ((g : Int) + 1)) 69 k = gL M 69 k := fun k => by simp [gI_pI, gI_pL, gI_pD, gI_pR, gI_pnw, gI_pcp, gL_pI, gL_pL, gL_pD, gL_pR, gL_pnw, gL_pcp, gD_pI, gD_pL, gD_pD, gD_pR, gD_pnw, gD_pcp, gR_pI, gR_pL, gR_pD, gR_pR, gR_pnw, gR_pcp, gz_pI, gz_pL, gz_pD, gz_pR, gz_pnw, gz_pcp]
      have f71 : ∀ k, gL (pI (pL M 71 g v) 69 26 ((g : Int) + 1)) 71 k = if k = g then v else gL M 71 k := fun k => by simp [gI_pI, gI_pL, gI_pD, gI_pR, gI_pnw, gI_pcp, gL_pI, gL_pL, gL_pD, gL_pR, gL_pnw, gL_pcp, gD_pI, gD_pL, gD_pD, gD_pR, gD_pnw, gD_pcp, gR_pI, gR_pL, gR_pD, gR_pR, gR_pnw, gR_pcp, gz_pI, gz_pL, gz_pD, gz_pR, gz_pnw, gz_pcp]
      generalize pI (pL M 71 g v) 69 26 ((g : Int) + 1) = M4 at G f26 fo fl f71
      have P4 : MP M4 p fr q := hP.frame (fun b h1 h2 => G.I (by omega) p) (fun b h1 h2 => G.L (by omega) p) (fun i _ => ⟨G.L (by omega) _, G.I (by omega) _⟩) (fun i _ => G.L (by omega) _)
      have nx : sp_X5_gather_4 (n + 1) 69 p i' j' M4 Q K173 := by
        refine ih ks' ts' i' j' (g + 1) h1 h2 h3 h4 h5 (G.k0 hk) P4 f26 (by omega) fun M' g' o' l' n' r' s' => hQ M' (G.trans g') (fun k hk => (o' k hk).trans (fo k hk)) (fun k => (l' k).trans (fl k)) (by rw [n']; omega) (fun k hk => by rw [r' k (by omega), f71, if_neg (by omega)]) (fun k x hx => ?_)
        cases k with
        | zero =>
          simp at hx
          subst hx
          rw [Nat.add_zero, r' g (by omega), f71, if_pos rfl]
        | succ k =>
          rw [show g + (k + 1) = g + 1 + k by omega]
          exact s' k x (by simpa using hx)
      unfold sp_X5_gather_144 sp_X5_gather_155 sp_X5_gather_168
      rcases h6 with ⟨rfl, rfl, rfl⟩ | ⟨rfl, rfl, rfl⟩
      · refine ⟨fun h => by omega, fun _ => ⟨by omega, ?_⟩⟩
        rintro i5 rfl
        refine ⟨fun h => by omega, fun _ => ⟨by omega, ?_⟩⟩
        rintro i6 rfl
        rw [Int.add_zero, show (i : Int) + 1 = ((i + 1 : Nat) : Int) by omega]
        exact nx
      · refine ⟨fun _ => ⟨by omega, ?_⟩, fun h => absurd rfl h⟩
        rintro i5 rfl
        refine ⟨fun _ => ⟨by omega, ?_⟩, fun h => absurd rfl h⟩
        rintro i6 rfl
        rw [Int.add_zero, show (j : Int) + 1 = ((j + 1 : Nat) : Int) by omega]
        exact nx
    -- the model's own key
    have ownStep : ∀ (k d : Int) (ks' : List (Int × Int)), ks = (k, d) :: ks' → (mg ks ts = if d = 0 then k :: mg ks' ts else mg ks' ts) →
        sp_X5_gather_72 69 p i j M Q (fun (x0 : Nat) (x1 : Int) (x2 : Int) (x3 : Int) (M : Im) => sp_X5_gather_4 (n + 1) x0 x1 x2 x3 M Q K173) K173 := by
      intro k d ks' e em
      have e' := e
      rw [hks] at e'
      obtain ⟨e1, e2⟩ := getElem?_drop0 e'.symm
      have hi' : i < (pks q).length := (List.getElem?_eq_some_iff.mp e1).1
      obtain ⟨kk, dd⟩ := kf_of e1
      rw [e, List.length_cons] at hn hi
      unfold sp_X5_gather_72 sp_X5_gather_77
      refine ⟨fun h => by omega, fun _ => ?_⟩
      refine d_isThere hk hp hP hfr hi' (fun h => ⟨fun w => by omega, fun _ => ?_⟩) (fun h => ⟨fun _ => ?_, fun w => absurd rfl w⟩)
      · rw [dd] at h
        rw [if_pos h] at em
        unfold sp_X5_gather_93
        rw [show ((p : Nat) : Int).toNat = p by omega, a75, show ((fr : Nat) : Int) + ((i : Nat) : Int) = ((fr + i : Nat) : Int) by omega, show ((fr + i : Nat) : Int).toNat = fr + i by omega, (hP.2.2.1 i hi').1, kk, w75, w82]
        refine ⟨fun w => by omega, fun _ => ⟨by omega, by omega, by omega, by omega, ?_⟩⟩
        exact putStep k ks' ts (i + 1) j 1 em (by omega) (by omega) hj e2 hts (Or.inl ⟨rfl, rfl, rfl⟩)
      · rw [dd] at h
        rw [if_neg h] at em
        rw [em] at hQ hg
        unfold sp_X5_gather_144 sp_X5_gather_155 sp_X5_gather_168
        refine ⟨fun h => by omega, fun _ => ⟨by omega, ?_⟩⟩
        rintro i5 rfl
        refine ⟨fun h => by omega, fun _ => ⟨by omega, ?_⟩⟩
        rintro i6 rfl
        rw [Int.add_zero, show (i : Int) + 1 = ((i + 1 : Nat) : Int) by omega]
        exact ih ks' ts (i + 1) j g (by omega) (by omega) hj e2 hts hk hP h26 hg hQ
    have lateStep : ∀ (t' : Int) (ts' : List Int), ts = t' :: ts' → mg ks ts = t' :: mg ks ts' →
        sp_X5_gather_76 69 p i j M Q (fun (x0 : Nat) (x1 : Int) (x2 : Int) (x3 : Int) (M : Im) => sp_X5_gather_4 (n + 1) x0 x1 x2 x3 M Q K173) K173 := by
      intro t' ts' e em
      have e' := e
      rw [hts] at e'
      obtain ⟨e1, e2⟩ := getElem?_drop0 e'.symm
      have hj' : j < (plt q).length := (List.getElem?_eq_some_iff.mp e1).1
      rw [e, List.length_cons] at hn hj
      unfold sp_X5_gather_76 sp_X5_gather_77
      refine ⟨fun _ => ?_, fun h => absurd rfl h⟩
      unfold sp_X5_gather_93
      rw [show (16 : Int) * ((p : Nat) : Int) + ((j : Nat) : Int) = ((16 * p + j : Nat) : Int) by omega, show ((16 * p + j : Nat) : Int).toNat = 16 * p + j by omega, hP.2.2.2 j hj', tf_of e1, w83]
      refine ⟨fun _ => ⟨by omega, by omega, by omega, by omega, by omega, ?_⟩, fun h => absurd rfl h⟩
      exact putStep t' ks ts' i (j + 1) 0 em (by omega) hi (by omega) hks e2 (Or.inr ⟨rfl, rfl, rfl⟩)
    have body : sp_X5_gather_24 69 p i j M Q (fun (x0 : Nat) (x1 : Int) (x2 : Int) (x3 : Int) (M : Im) => sp_X5_gather_4 (n + 1) x0 x1 x2 x3 M Q K173) K173 := by
      unfold sp_X5_gather_24
      rw [show ((p : Nat) : Int).toNat = p by omega, a78, a76, w78, w76]
      refine ⟨by omega, fun h => ?_, fun h => ⟨by omega, fun h2 => ?_, fun h2 => ?_⟩⟩
      · cases ts with
        | cons t' ts' => rw [List.length_cons] at hj; omega
        | nil =>
          cases ks with
          | nil => simp at hn
          | cons x ks' =>
            obtain ⟨k, d⟩ := x
            exact ownStep k d ks' rfl (mg_cn k d ks')
      · cases ks with
        | cons x ks' => rw [List.length_cons] at hi; omega
        | nil =>
          cases ts with
          | nil => simp at hn
          | cons t' ts' => exact lateStep t' ts' rfl (by rw [mg_nil, mg_nil])
      · cases ks with
        | nil => simp only [List.length_nil] at hi; omega
        | cons x ks' =>
          cases ts with
          | nil => simp only [List.length_nil] at hj; omega
          | cons t' ts' =>
            obtain ⟨k, d⟩ := x
            obtain ⟨e1, -⟩ := getElem?_drop0 hks
            obtain ⟨e2, -⟩ := getElem?_drop0 hts
            have hi' : i < (pks q).length := (List.getElem?_eq_some_iff.mp e1).1
            have hj' : j < (plt q).length := (List.getElem?_eq_some_iff.mp e2).1
            have hne := hd t' (List.mem_of_getElem? e2) (k, d) (List.mem_of_getElem? e1)
            dsimp only at hne
            rw [a75, show ((fr : Nat) : Int) + ((i : Nat) : Int) = ((fr + i : Nat) : Int) by omega, show ((fr + i : Nat) : Int).toNat = fr + i by omega, (hP.2.2.1 i hi').1, (kf_of e1).1, show (16 : Int) * ((p : Nat) : Int) + ((j : Nat) : Int) = ((16 * p + j : Nat) : Int) by omega, show ((16 * p + j : Nat) : Int).toNat = 16 * p + j by omega, hP.2.2.2 j hj', tf_of e2, w75, w82, w83]
            refine ⟨by omega, by omega, by omega, by omega, by omega, by omega, by omega, by omega, by omega, fun h3 => ?_, fun h3 => ?_⟩
            · exact lateStep t' ts' rfl (by rw [mg_cc, if_pos (by omega)])
            · exact ownStep k d ks' rfl (by rw [mg_cc, if_neg (by omega)])
    unfold sp_X5_gather_4
    rw [show ((p : Nat) : Int).toNat = p by omega, a76, a78, w76, w78]
    exact ⟨by omega, fun _ => body, fun h => ⟨by omega, fun h2 => by omega, fun _ => body⟩⟩
theorem d_gather {M : Im} {p fr g : Nat} {q : Pc} {Q : Im → Prop} (hk : K0 ≤ gz M) (hp : p < 10000) (hfr : fr + (pks q).length ≤ 12000) (hll : (plt q).length ≤ 16) (hd : dsj q) (hP : MP M p fr q) (h26 : gI M 69 26 = (g : Nat)) (hg : g + (mq q).length ≤ 4000)
    (hQ : ∀ M', Ag (fun b => b = 69 ∨ b = 71) M M' → (∀ k, k ≠ 26 → gI M' 69 k = gI M 69 k) → (∀ k, gL M' 69 k = gL M 69 k) → gI M' 69 26 = ((g + (mq q).length : Nat) : Int) → (∀ k, k < g → gL M' 71 k = gL M 71 k) → (∀ k x, (mq q)[k]? = some x → gL M' 71 (g + k) = x) → Q M') : sp_X5_gather 69 p M Q := by
  unfold sp_X5_gather
  exact ⟨iO_c hk (by decide) rfl, (pks q).length + (plt q).length + 1, d_gather_4 (Q := Q) (K173 := fun M => Q M) hp hfr hll hd _ (pks q) (plt q) 0 0 g rfl (by omega) (by omega) rfl rfl hk hP h26 hg hQ⟩
/-! how many are there -/
def cnt0 : List (Int × Int) → Nat
  | [] => 0
  | x :: xs => (if x.2 = 0 then 1 else 0) + cnt0 xs
theorem mg_length : ∀ (n : Nat) (ks : List (Int × Int)) (ts : List Int), ks.length + ts.length ≤ n → (mg ks ts).length = cnt0 ks + ts.length
  | n, [], ts, h => by rw [mg_nil]; simp [cnt0]
  | 0, (k, d) :: ks, ts, h => by simp at h
  | n + 1, (k, d) :: ks, [], h => by
    have h1 := mg_length n ks [] (by simp at h ⊢; omega)
    rw [mg_cn]; unfold cnt0
    simp only [List.length_nil, Nat.add_zero] at h1 ⊢
    by_cases e : d = 0
    · rw [if_pos e, if_pos e, List.length_cons]; omega
    · rw [if_neg e, if_neg e]; omega
  | n + 1, (k, d) :: ks, t :: ts, h => by
    have h1 := mg_length n ks (t :: ts) (by simp at h ⊢; omega)
    have h2 := mg_length n ((k, d) :: ks) ts (by simp at h ⊢; omega)
    rw [mg_cc]
    by_cases e : t < k
    · rw [if_pos e, List.length_cons, h2, List.length_cons]; omega
    · rw [if_neg e]
      unfold cnt0
      by_cases e2 : d = 0
      · rw [if_pos e2, if_pos e2, List.length_cons, h1]; omega
      · rw [if_neg e2, if_neg e2, h1]; omega
theorem mq_length (q : Pc) : (mq q).length = cnt0 (pks q) + (plt q).length := mg_length _ _ _ (Nat.le_refl _)
theorem cnt0_app (a b : List (Int × Int)) : cnt0 (a ++ b) = cnt0 a + cnt0 b := by
  induction a with
  | nil => simp [cnt0]
  | cons x a ih =>
    show (if x.2 = 0 then 1 else 0) + cnt0 (a ++ b) = (if x.2 = 0 then 1 else 0) + cnt0 a + cnt0 b
    rw [ih]; omega
theorem cnt0_le (a : List (Int × Int)) : cnt0 a ≤ a.length := by
  induction a with
  | nil => exact Nat.le_refl _
  | cons x a ih => unfold cnt0; rw [List.length_cons]; split <;> omega
theorem cnt0_succ {l : List (Int × Int)} {i : Nat} {k d : Int} (h : l[i]? = some (k, d)) : cnt0 (l.take (i + 1)) = cnt0 (l.take i) + (if d = 0 then 1 else 0) := by
  rw [List.take_add_one, h, cnt0_app]
  simp [cnt0]
theorem GT_app (a b : List Pc) : GT (a ++ b) = GT a ++ GT b := by unfold GT; rw [List.flatMap_append]
theorem GT_one (q : Pc) : GT [q] = mq q := by unfold GT; simp
theorem d_there_34 {p fr n0 : Nat} {q : Pc} {Q : Int → Im → Prop} {K67 : Nat → Int → Int → Im → Prop} {M : Im} (hk : K0 ≤ gz M) (hp : p < 10000) (hP : MP M p fr q) (hfr : fr + (pks q).length ≤ 12000) (hn : n0 ≤ 100000) (hK : K67 69 ((n0 + cnt0 (pks q) : Nat) : Int) p M) :
    ∀ (d i : Nat), i + d = (pks q).length → sp_X5_there_34 (d + 1) 69 ((n0 + cnt0 ((pks q).take i) : Nat) : Int) p i M Q K67
  | 0, i, h => by
    have w76 : alen 76 = 10000 := rfl
    unfold sp_X5_there_34
    rw [show ((p : Nat) : Int).toNat = p by omega, hP.1.2.2.1, w76, List.take_of_length_le (by omega)]
    exact ⟨by omega, fun _ => hK, fun h => by omega⟩
  | d + 1, i, h => by
    have w76 : alen 76 = 10000 := rfl
    have hi : i < (pks q).length := by omega
    have e := List.getElem?_eq_getElem hi
    generalize hx : (pks q)[i] = x at e
    obtain ⟨k, dd⟩ := x
    have cs := cnt0_succ e
    have cl := cnt0_le (pks q)
    have cl2 := cnt0_le ((pks q).take i)
    rw [List.length_take] at cl2
    have ih := d_there_34 (Q := Q) hk hp hP hfr hn hK d (i + 1) (by omega)
    have edf : df q i = dd := (kf_of e).2
    unfold sp_X5_there_34
    rw [show ((p : Nat) : Int).toNat = p by omega, hP.1.2.2.1, w76]
    refine ⟨by omega, fun h => by omega, fun _ => ?_⟩
    refine d_isThere hk hp hP hfr hi (fun h => ⟨fun w => by omega, fun _ => ?_⟩) (fun h => ⟨fun _ => ?_, fun w => absurd rfl w⟩)
    · rw [if_pos (by omega)] at cs
      unfold sp_X5_there_59
      refine ⟨by omega, ?_⟩
      rintro i6 rfl
      refine ⟨by omega, ?_⟩
      rintro i7 rfl
      rw [show (i : Int) + 1 = ((i + 1 : Nat) : Int) by omega, show ((n0 + cnt0 ((pks q).take i) : Nat) : Int) + 1 = ((n0 + cnt0 ((pks q).take (i + 1)) : Nat) : Int) by omega]
      exact ih
    · rw [if_neg (by omega)] at cs
      unfold sp_X5_there_59
      refine ⟨by omega, ?_⟩
      rintro i6 rfl
      refine ⟨by omega, ?_⟩
      rintro i7 rfl
      rw [show (i : Int) + 1 = ((i + 1 : Nat) : Int) by omega, show ((n0 + cnt0 ((pks q).take i) : Nat) : Int) + 0 = ((n0 + cnt0 ((pks q).take (i + 1)) : Nat) : Int) by omega]
      exact ih
theorem GT_take_succ {l : List Pc} {p : Nat} {q : Pc} (h : l[p]? = some q) : (GT (l.take (p + 1))).length = (GT (l.take p)).length + (mq q).length := by
  rw [take_succ_of h, GT_app, GT_one, List.length_append]
theorem GT_le (l : List Pc) : (GT l).length ≤ ksum l + tsum l := by
  induction l with
  | nil => exact Nat.le_refl _
  | cons q l ih =>
    have e : GT (q :: l) = mq q ++ GT l := by unfold GT; rw [List.flatMap_cons]
    have := mq_length q
    have := cnt0_le (pks q)
    rw [e, List.length_append, ksum_cons, tsum_cons]; omega
theorem d_there_4 {l A : List Pc} {Q : Int → Im → Prop} {K73 : Int → Im → Prop} {M : Im} (hk : K0 ≤ gz M) (hA : MA M A) (hpre : l <+: A) (hl : l.length ≤ 1000) (hs : ksum l ≤ 1000) (hts : tsum l ≤ 1000) (h23 : gI M 69 23 = 1) (h73 : gI M 73 0 = l.length) (hK : K73 (GT l).length M) :
    ∀ (d p : Nat), p + d = l.length → sp_X5_there_4 (d + 1) 69 ((GT (l.take p)).length : Nat) p M Q K73
  | 0, p, h => by
    have w73 : alen 73 = 20 := rfl
    unfold sp_X5_there_4
    rw [h23]
    refine ⟨fun h => by omega, fun _ => ?_⟩
    unfold sp_X5_pieces
    refine ⟨iO_c hk (by decide) rfl, by omega, ?_⟩
    unfold sp_X5_there_20
    rw [h73, List.take_of_length_le (by omega)]
    exact ⟨fun _ => hK, fun h => by omega⟩
  | d + 1, p, h => by
    have w73 : alen 73 = 20 := rfl
    have w78 : alen 78 = 10000 := rfl
    have hq : l[p]? = some (l[p]'(by omega)) := List.getElem?_eq_getElem (by omega)
    generalize l[p]'(by omega) = q at hq
    obtain ⟨rest, rfl⟩ := hpre
    have hqA : (l ++ rest)[p]? = some q := by rw [List.getElem?_append_left (by omega)]; exact hq
    have hP := hA p q hqA
    rw [List.take_append_of_le_length (by omega)] at hP
    have kin := ksum_in hq
    have tin := tsum_in hq
    have gs := GT_take_succ hq
    have ml := mq_length q
    have gl := GT_le (l.take p)
    have kt := ksum_take_le l p
    have tt := tsum_take_le l p
    have ih := d_there_4 (Q := Q) hk hA ⟨rest, rfl⟩ hl hs hts h23 h73 hK d (p + 1) (by omega)
    unfold sp_X5_there_4
    rw [h23]
    refine ⟨fun h => by omega, fun _ => ?_⟩
    unfold sp_X5_pieces
    refine ⟨iO_c hk (by decide) rfl, by omega, ?_⟩
    unfold sp_X5_there_20
    dsimp only
    rw [h73, show ((p : Nat) : Int).toNat = p by omega, hP.1.2.2.2.2, w78]
    refine ⟨fun h => by omega, fun _ => ⟨by omega, by omega, ?_⟩⟩
    rintro i3 rfl
    refine ⟨(pks q).length + 1, ?_⟩
    rw [show (((GT (l.take p)).length : Nat) : Int) + (((plt q).length : Nat) : Int) = (((GT (l.take p)).length + (plt q).length + cnt0 ((pks q).take 0) : Nat) : Int) by simp [cnt0]]
    refine d_there_34 (n0 := (GT (l.take p)).length + (plt q).length) (fr := ksum (l.take p)) hk (by omega) hP (by omega) (by omega) ?_ (pks q).length 0 (by omega)
    unfold sp_X5_there_67
    refine ⟨by omega, ?_⟩
    rintro i8 rfl
    rw [show (p : Int) + 1 = ((p + 1 : Nat) : Int) by omega, show (((GT (l.take p)).length + (plt q).length + cnt0 (pks q) : Nat) : Int) = (((GT (l.take (p + 1))).length : Nat) : Int) by omega]
    exact ih
theorem d_there {l A : List Pc} {Q : Int → Im → Prop} {M : Im} (hk : K0 ≤ gz M) (hA : MA M A) (hpre : l <+: A) (hl : l.length ≤ 1000) (hs : ksum l ≤ 1000) (hts : tsum l ≤ 1000) (h23 : gI M 69 23 = if l = [] then 0 else 1) (h73 : gI M 73 0 = l.length) (hQ : Q (GT l).length M) : sp_X5_there 69 M Q := by
  unfold sp_X5_there
  by_cases hn : l = []
  · subst hn
    rw [if_pos rfl] at h23
    refine ⟨iO_c hk (by decide) rfl, 1, ?_⟩
    unfold sp_X5_there_4
    rw [h23]
    refine ⟨fun _ => ?_, fun h => absurd rfl h⟩
    unfold sp_X5_there_20
    exact ⟨fun _ => hQ, fun h => by omega⟩
  · rw [if_neg hn] at h23
    exact ⟨iO_c hk (by decide) rfl, l.length + 1, d_there_4 (Q := Q) (K73 := fun x1 M => Q x1 M) hk hA hpre hl hs hts h23 h73 hQ l.length 0 (by omega)⟩
