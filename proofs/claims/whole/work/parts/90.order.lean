/-! ===== order: of the keys in pieces, of what is there ===== -/
def rising (L : List Int) : Prop := L.Pairwise (· < ·)
def inR (x : Int) : Prop := -1000000000000 ≤ x ∧ x ≤ 1000000000000
def vals (q : Pc) : List Int := (pks q).map Prod.fst ++ plt q
/-- a piece finds its own keys -/
def fnd (q : Pc) : Prop := ∀ i, i < (pks q).length → (i : Int) ≤ dg q (kf q i) + pma q
def pgd (q : Pc) : Prop := pok q ∧ pmo q ∧ rising ((pks q).map Prod.fst) ∧ rising (plt q) ∧ dsj q ∧ (∀ t, t ∈ plt q → inR t) ∧ fnd q
def ordR (a b : Pc) : Prop := ∀ x, x ∈ vals a → ∀ y, y ∈ vals b → x < y
def lowR (l : List Pc) : Prop := ∀ (p : Nat) (q : Pc), 1 ≤ p → l[p]? = some q → ∀ t, t ∈ plt q → kf q 0 < t
/-- what is asked of the pieces of the index -/
def WL (l : List Pc) : Prop := (∀ q, q ∈ l → pgd q) ∧ l.Pairwise ordR ∧ lowR l
theorem mem_mg : ∀ (n : Nat) (ks : List (Int × Int)) (ts : List Int), ks.length + ts.length ≤ n → ∀ x, x ∈ mg ks ts → x ∈ ks.map Prod.fst ∨ x ∈ ts
  | n, [], ts, h, x, hx => by rw [mg_nil] at hx; exact Or.inr hx
  | 0, (k, d) :: ks, ts, h, x, hx => by simp at h
  | n + 1, (k, d) :: ks, [], h, x, hx => by
    have ih := mem_mg n ks [] (by simp at h ⊢; omega) x
    rw [mg_cn] at hx
    have h2 : x ∈ mg ks [] → x ∈ ((k, d) :: ks).map Prod.fst ∨ x ∈ ([] : List Int) := fun w => (ih w).elim (fun v => Or.inl (List.mem_cons_of_mem _ v)) Or.inr
    split at hx
    · rcases List.mem_cons.mp hx with rfl | hx
      · exact Or.inl List.mem_cons_self
      · exact h2 hx
    · exact h2 hx
  | n + 1, (k, d) :: ks, t :: ts, h, x, hx => by
    have ih1 := mem_mg n ks (t :: ts) (by simp at h ⊢; omega) x
    have ih2 := mem_mg n ((k, d) :: ks) ts (by simp at h ⊢; omega) x
    rw [mg_cc] at hx
    have h1 : x ∈ mg ks (t :: ts) → x ∈ ((k, d) :: ks).map Prod.fst ∨ x ∈ t :: ts := fun w => (ih1 w).elim (fun v => Or.inl (List.mem_cons_of_mem _ v)) Or.inr
    split at hx
    · rcases List.mem_cons.mp hx with rfl | hx
      · exact Or.inr List.mem_cons_self
      · exact (ih2 hx).elim Or.inl (fun v => Or.inr (List.mem_cons_of_mem _ v))
    · split at hx
      · rcases List.mem_cons.mp hx with rfl | hx
        · exact Or.inl List.mem_cons_self
        · exact h1 hx
      · exact h1 hx
theorem rising_mg : ∀ (n : Nat) (ks : List (Int × Int)) (ts : List Int), ks.length + ts.length ≤ n → rising (ks.map Prod.fst) → rising ts → (∀ t, t ∈ ts → ∀ x, x ∈ ks → t ≠ x.1) → rising (mg ks ts)
  | n, [], ts, h, hk, ht, hd => by rw [mg_nil]; exact ht
  | 0, (k, d) :: ks, ts, h, hk, ht, hd => by simp at h
  | n + 1, (k, d) :: ks, [], h, hk, ht, hd => by
    have hk' := List.pairwise_cons.mp (show (k :: ks.map Prod.fst).Pairwise (· < ·) from hk)
    have ih := rising_mg n ks [] (by simp at h ⊢; omega) hk'.2 ht (fun t ht => by simp at ht)
    rw [mg_cn]
    split
    · refine List.pairwise_cons.mpr ⟨fun x hx => ?_, ih⟩
      rcases mem_mg _ ks [] (Nat.le_refl _) x hx with w | w
      · exact hk'.1 x w
      · simp at w
    · exact ih
  | n + 1, (k, d) :: ks, t :: ts, h, hk, ht, hd => by
    have hk' := List.pairwise_cons.mp (show (k :: ks.map Prod.fst).Pairwise (· < ·) from hk)
    have ht' := List.pairwise_cons.mp ht
    have ih1 := rising_mg n ks (t :: ts) (by simp at h ⊢; omega) hk'.2 ht (fun t h x hx => hd t h x (List.mem_cons_of_mem _ hx))
    have ih2 := rising_mg n ((k, d) :: ks) ts (by simp at h ⊢; omega) hk ht'.2 (fun t h x hx => hd t (List.mem_cons_of_mem _ h) x hx)
    have hne := hd t List.mem_cons_self (k, d) List.mem_cons_self
    dsimp only at hne
    rw [mg_cc]
    split
    · rename_i hlt
      refine List.pairwise_cons.mpr ⟨fun x hx => ?_, ih2⟩
      rcases mem_mg _ _ ts (Nat.le_refl _) x hx with w | w
      · rcases List.mem_cons.mp (show x ∈ k :: ks.map Prod.fst from w) with rfl | w
        · exact hlt
        · have := hk'.1 x w; omega
      · exact ht'.1 x w
    · rename_i hlt
      have key : ∀ x, x ∈ mg ks (t :: ts) → k < x := fun x hx => by
        rcases mem_mg _ ks _ (Nat.le_refl _) x hx with w | w
        · exact hk'.1 x w
        · rcases List.mem_cons.mp w with rfl | w
          · omega
          · have := ht'.1 x w; omega
      split
      · exact List.pairwise_cons.mpr ⟨key, ih1⟩
      · exact ih1
theorem mq_mem {q : Pc} {x : Int} (h : x ∈ mq q) : x ∈ vals q := List.mem_append.mpr (mem_mg _ _ _ (Nat.le_refl _) x h)
theorem mq_rising {q : Pc} (h : pgd q) : rising (mq q) := rising_mg _ _ _ (Nat.le_refl _) h.2.2.1 h.2.2.2.1 h.2.2.2.2.1
theorem kf_mem {q : Pc} {i : Nat} (h : i < (pks q).length) : kf q i ∈ (pks q).map Prod.fst := by
  have e := List.getElem?_eq_getElem h
  generalize (pks q)[i] = x at e
  obtain ⟨k, d⟩ := x
  rw [(kf_of e).1]
  exact List.mem_map.mpr ⟨(k, d), List.mem_of_getElem? e, rfl⟩
theorem mem_kf {q : Pc} {x : Int} (h : x ∈ (pks q).map Prod.fst) : ∃ i, i < (pks q).length ∧ kf q i = x := by
  obtain ⟨⟨k, d⟩, h1, rfl⟩ := List.mem_map.mp h
  obtain ⟨i, hi⟩ := List.mem_iff_getElem?.mp h1
  exact ⟨i, (List.getElem?_eq_some_iff.mp hi).1, (kf_of hi).1⟩
theorem tf_mem {q : Pc} {i : Nat} (h : i < (plt q).length) : tf q i ∈ plt q := by
  have e := List.getElem?_eq_getElem h
  generalize (plt q)[i] = x at e
  rw [tf_of e]
  exact List.mem_of_getElem? e
theorem mem_tf {q : Pc} {x : Int} (h : x ∈ plt q) : ∃ i, i < (plt q).length ∧ tf q i = x := by
  obtain ⟨i, hi⟩ := List.mem_iff_getElem?.mp h
  exact ⟨i, (List.getElem?_eq_some_iff.mp hi).1, tf_of hi⟩
theorem rising_kf {q : Pc} (h : rising ((pks q).map Prod.fst)) {i j : Nat} (hij : i < j) (hj : j < (pks q).length) : kf q i < kf q j := by
  have h1 := List.pairwise_iff_getElem.mp h i j (by simp; omega) (by simpa using hj) hij
  have ei : (pks q)[i]? = some ((pks q)[i]'(by omega)) := List.getElem?_eq_getElem (by omega)
  have ej : (pks q)[j]? = some ((pks q)[j]'hj) := List.getElem?_eq_getElem hj
  have e1 : kf q i = ((pks q)[i]'(by omega)).1 := by unfold kf; rw [ei]; rfl
  have e2 : kf q j = ((pks q)[j]'hj).1 := by unfold kf; rw [ej]; rfl
  rw [e1, e2]
  simpa using h1
theorem rising_tf {q : Pc} (h : rising (plt q)) {i j : Nat} (hij : i < j) (hj : j < (plt q).length) : tf q i < tf q j := by
  have h1 := List.pairwise_iff_getElem.mp h i j (by omega) hj hij
  have ei : (plt q)[i]? = some ((plt q)[i]'(by omega)) := List.getElem?_eq_getElem (by omega)
  have ej : (plt q)[j]? = some ((plt q)[j]'hj) := List.getElem?_eq_getElem hj
  rw [tf_of ei, tf_of ej]
  exact h1
theorem rising_of_tf {L : List Int} (h : ∀ i j, i < j → j < L.length → (L[i]?.getD 0) < (L[j]?.getD 0)) : rising L := by
  refine List.pairwise_iff_getElem.mpr fun i j hi hj hij => ?_
  have := h i j hij hj
  rw [List.getElem?_eq_getElem hi, List.getElem?_eq_getElem hj] at this
  exact this
theorem rising_of_kf {L : List (Int × Int)} (h : ∀ i j, i < j → j < L.length → (L[i]?.getD (0, 0)).1 < (L[j]?.getD (0, 0)).1) : rising (L.map Prod.fst) := by
  refine List.pairwise_iff_getElem.mpr fun i j hi hj hij => ?_
  rw [List.length_map] at hi hj
  have := h i j hij hj
  rw [List.getElem?_eq_getElem hi, List.getElem?_eq_getElem hj] at this
  simpa using this
/-- the first of a list, and on -/
def lf (L : List Int) (i : Nat) : Int := L[i]?.getD 0
theorem lf_of {L : List Int} {i : Nat} {x : Int} (h : L[i]? = some x) : lf L i = x := by unfold lf; rw [h]; rfl
theorem okF_lf {L : List Int} (h : rising L) (hb : ∀ x, x ∈ L → inR x) : okF (lf L) L.length := by
  refine ⟨fun i hi => ?_, fun i j hij hj => ?_⟩
  · have e := List.getElem?_eq_getElem hi
    rw [lf_of e]; exact hb _ (List.getElem_mem hi)
  · have h1 := List.pairwise_iff_getElem.mp h i j (by omega) hj hij
    rw [lf_of (List.getElem?_eq_getElem (show i < L.length by omega)), lf_of (List.getElem?_eq_getElem hj)]
    exact h1
theorem GT_cons (q : Pc) (l : List Pc) : GT (q :: l) = mq q ++ GT l := by unfold GT; rw [List.flatMap_cons]
theorem GT_mem {l : List Pc} {x : Int} (h : x ∈ GT l) : ∃ q, q ∈ l ∧ x ∈ mq q := by unfold GT at h; exact List.mem_flatMap.mp h
theorem GT_rising : ∀ {l : List Pc}, (∀ q, q ∈ l → pgd q) → l.Pairwise ordR → rising (GT l)
  | [], _, _ => List.Pairwise.nil
  | q :: l, h, hp => by
    have hp' := List.pairwise_cons.mp hp
    rw [GT_cons]
    refine List.pairwise_append.mpr ⟨mq_rising (h q List.mem_cons_self), GT_rising (fun x hx => h x (List.mem_cons_of_mem _ hx)) hp'.2, fun x hx y hy => ?_⟩
    obtain ⟨r, hr, hy⟩ := GT_mem hy
    exact hp'.1 r hr x (mq_mem hx) y (mq_mem hy)
theorem pgd_val {q : Pc} (h : pgd q) {x : Int} (hx : x ∈ vals q) : inR x := by
  rcases List.mem_append.mp hx with w | w
  · obtain ⟨i, hi, rfl⟩ := mem_kf w
    exact h.1.2.2.1 i hi
  · exact h.2.2.2.2.2.1 x w
theorem GT_inR {l : List Pc} (h : ∀ q, q ∈ l → pgd q) : ∀ x, x ∈ GT l → inR x := fun x hx => by
  obtain ⟨q, hq, hx⟩ := GT_mem hx
  exact pgd_val (h q hq) (mq_mem hx)
/-- what is merged of pieces is merged of each -/
theorem mgl_GT : ∀ {l : List Pc}, l.Pairwise ordR → mgl l = GT l
  | [], _ => by unfold mgl KS TS GT; simp [mg]
  | q :: l, hp => by
    have hp' := List.pairwise_cons.mp hp
    have ih := mgl_GT hp'.2
    rw [GT_cons, ← ih]
    unfold mgl
    have e1 : KS (q :: l) = pks q ++ KS l := by unfold KS; rw [List.flatMap_cons]
    have e2 : TS (q :: l) = plt q ++ TS l := by unfold TS; rw [List.flatMap_cons]
    rw [e1, e2]
    refine mg_append _ _ _ _ _ (Nat.le_refl _) (fun t ht x hx => ?_) (fun x hx t ht => ?_) (fun _ _ => trivial)
    · unfold KS at hx
      obtain ⟨r, hr, hx⟩ := List.mem_flatMap.mp hx
      exact hp'.1 r hr t (List.mem_append_right _ ht) x.1 (List.mem_append_left _ (List.mem_map.mpr ⟨x, hx, rfl⟩))
    · unfold TS at ht
      obtain ⟨r, hr, ht⟩ := List.mem_flatMap.mp ht
      have := hp'.1 r hr x.1 (List.mem_append_left _ (List.mem_map.mpr ⟨x, hx, rfl⟩)) t (List.mem_append_right _ ht)
      omega
theorem pw_get {l : List Pc} (h : l.Pairwise ordR) {i j : Nat} {a b : Pc} (hij : i < j) (ha : l[i]? = some a) (hb : l[j]? = some b) : ordR a b := by
  obtain ⟨h1, rfl⟩ := List.getElem?_eq_some_iff.mp ha
  obtain ⟨h2, rfl⟩ := List.getElem?_eq_some_iff.mp hb
  exact List.pairwise_iff_getElem.mp h i j h1 h2 hij
theorem pw_of {l : List Pc} (h : ∀ (i j : Nat) (a b : Pc), i < j → l[i]? = some a → l[j]? = some b → ordR a b) : l.Pairwise ordR :=
  List.pairwise_iff_getElem.mpr fun i j h1 h2 hij => h i j _ _ hij (List.getElem?_eq_getElem h1) (List.getElem?_eq_getElem h2)
theorem pgd_kf0 {q : Pc} (h : pgd q) : kf q 0 ∈ vals q := List.mem_append_left _ (kf_mem (by have := h.1.1.2.1; omega))
theorem okF_fk {l : List Pc} (h : WL l) : okF (fk l) l.length := by
  refine ⟨fun i hi => ?_, fun i j hij hj => ?_⟩
  · have e := List.getElem?_eq_getElem hi
    rw [fk_at e]
    have := h.1 _ (List.getElem_mem hi)
    exact pgd_val this (pgd_kf0 this)
  · have ei := List.getElem?_eq_getElem (show i < l.length by omega)
    have ej := List.getElem?_eq_getElem hj
    rw [fk_at ei, fk_at ej]
    exact pw_get h.2.1 hij ei ej _ (pgd_kf0 (h.1 _ (List.mem_of_getElem? ei))) _ (pgd_kf0 (h.1 _ (List.mem_of_getElem? ej)))
/-! pieces that are made -/
theorem mg_plain : ∀ (ks : List (Int × Int)), (∀ x, x ∈ ks → x.2 = 0) → mg ks [] = ks.map Prod.fst
  | [], _ => by rw [mg_nil]; rfl
  | (k, d) :: ks, h => by
    have hd := h (k, d) List.mem_cons_self
    dsimp only at hd
    rw [mg_cn, if_pos hd, mg_plain ks (fun x hx => h x (List.mem_cons_of_mem _ hx))]
    rfl
theorem mq_rows {q q' : Pc} (h1 : pks q = pks q') (h2 : plt q = plt q') : mq q = mq q' := by unfold mq; rw [h1, h2]
theorem vals_rows {q q' : Pc} (h1 : pks q = pks q') (h2 : plt q = plt q') : vals q = vals q' := by unfold vals; rw [h1, h2]
theorem mq_pcOf (m E : Int) (f : Nat → Int) (n : Nat) : mq (pcOf m E f n) = (List.range n).map f := by
  have e : pks (pcOf m E f n) = (List.range n).map (fun i => (f i, (0 : Int))) := rfl
  have e2 : plt (pcOf m E f n) = [] := rfl
  unfold mq
  rw [e, e2, mg_plain _ (fun x hx => by obtain ⟨i, -, rfl⟩ := List.mem_map.mp hx; rfl), List.map_map]
  rfl
theorem GT_mkGo (m E : Int) : ∀ (d : Nat) (f : Nat → Int) (n : Nat), n ≤ d → GT (mkGo m E d f n) = (List.range n).map f
  | 0, f, n, h => by
    obtain rfl : n = 0 := by omega
    rfl
  | d + 1, f, n, h => by
    unfold mkGo
    by_cases hn : n = 0
    · rw [if_pos hn, hn]; rfl
    · rw [if_neg hn]
      have h1 := spanLen_pos (m := m) (f := f) (n := n) (by omega)
      generalize spanLen m f n = s at *
      rw [GT_cons, mq_pcOf, GT_mkGo m E d _ _ (by omega)]
      obtain ⟨r, rfl⟩ : ∃ r, n = s + r := ⟨n - s, by omega⟩
      rw [Nat.add_sub_cancel_left, List.range_add, List.map_append, List.map_map]
      rfl
theorem GT_map_rows {g : Pc → Pc} (h : ∀ q, pks (g q) = pks q ∧ plt (g q) = plt q) (l : List Pc) : GT (l.map g) = GT l := by
  induction l with
  | nil => rfl
  | cons q l ih => rw [List.map_cons, GT_cons, GT_cons, ih, mq_rows (h q).1 (h q).2]
theorem GT_mkk (kind E : Int) (f : Nat → Int) (n : Nat) : GT (mkk kind E f n) = (List.range n).map f := by
  rw [mkk_toK, GT_map_rows (toK_rows kind)]
  exact GT_mkGo _ _ _ _ _ (Nat.le_refl _)
theorem map_lf (L : List Int) : (List.range L.length).map (lf L) = L := by
  refine List.ext_getElem (by simp) fun i h1 h2 => ?_
  rw [List.getElem_map, List.getElem_range, lf_of (List.getElem?_eq_getElem h2)]
theorem vals_pcOf {m E : Int} {f : Nat → Int} {n : Nat} {x : Int} (h : x ∈ vals (pcOf m E f n)) : ∃ i, i < n ∧ x = f i := by
  rcases List.mem_append.mp h with w | w
  · obtain ⟨i, hi, rfl⟩ := mem_kf w
    rw [len_pcOf] at hi
    exact ⟨i, hi, kf_pcOf hi⟩
  · exact absurd w (by show x ∉ []; simp)
theorem ms_ge {q : Pc} : ∀ (n i : Nat), i < n → ((gs q (kf q i - kf q 0) - i).natAbs : Int) ≤ ms q n
  | 0, i, h => absurd h (Nat.not_lt_zero _)
  | n + 1, i, h => by
    unfold ms
    rcases Nat.lt_or_ge i n with w | w
    · have := ms_ge (q := q) n i w
      exact Int.le_trans this (Int.le_max_left _ _)
    · rw [show i = n by omega]
      exact Int.le_max_right _ _
theorem fnd_rnd {q : Pc} (h : fnd q) (h1 : pki q = 1) : fnd (rnd q) := by
  unfold rnd
  split
  · rename_i hle
    intro i hi
    have h2 := ms_ge (q := asKind 2 q) (pks q).length i hi
    have h3 : ms (asKind 2 q) (pks q).length ≤ pma q := hle
    have e : dg (asKind 2 q) (kf (asKind 2 q) i) = gs (asKind 2 q) (kf (asKind 2 q) i - kf (asKind 2 q) 0) := rfl
    have e2 : pma (asKind 2 q) = pma q := rfl
    rw [e, e2]
    omega
  · have : asKind 1 q = q := by
      obtain ⟨⟨a, b⟩, c⟩ := q
      have : a = 1 := h1
      subst this; rfl
    rw [this]; exact h
theorem pgd_pcOf {m E : Int} {f : Nat → Int} {n : Nat} (hf : okF f n) (hn0 : 1 ≤ n) (hn : n ≤ 600) (hm : 0 ≤ m) (hmE : m ≤ E) (hE : E ≤ 40) (hfit : fitS (allF m f (n - 1))) : pgd (pcOf m E f n) := by
  refine ⟨pok_pcOf hf hn0 hn ⟨hm, by omega⟩, ⟨by show 0 ≤ E; omega, hE⟩, rising_of_kf fun i j hij hj => ?_, List.Pairwise.nil, fun t ht => absurd ht (by show t ∉ []; simp), fun t ht => absurd ht (by show t ∉ []; simp), fun i hi => ?_⟩
  · have hj' : j < n := by rw [← len_pcOf m E f n]; exact hj
    have e1 : (((pks (pcOf m E f n))[i]?).getD (0, 0)).1 = f i := kf_pcOf (by omega)
    have e2 : (((pks (pcOf m E f n))[j]?).getD (0, 0)).1 = f j := kf_pcOf hj'
    rw [e1, e2]
    exact hf.2 i j hij hj'
  · rw [len_pcOf] at hi
    have := dg_made (E := E) (k := kf (pcOf m E f n) i) hf hn0 hm hfit hi (by rw [kf_pcOf hi]; exact Int.le_refl _)
    have e : pma (pcOf m E f n) = E := rfl
    rw [e]; omega
theorem pgd_rows {q q' : Pc} (h : pgd q) (h1 : pks q' = pks q) (h2 : plt q' = plt q) (ho : pok q') (hm : pma q' = pma q) (hf : fnd q') : pgd q' := by
  obtain ⟨a, b, c, d, e, f, g⟩ := h
  refine ⟨ho, by unfold pmo; rw [hm]; exact b, by rw [h1]; exact c, by rw [h2]; exact d, by unfold dsj; rw [h1, h2]; exact e, by rw [h2]; exact f, hf⟩
theorem pma_rnd (q : Pc) : pma (rnd q) = pma q := by unfold rnd; split <;> rfl
theorem pgd_rnd {q : Pc} (h : pgd q) (h1 : pki q = 1) : pgd (rnd q) := pgd_rows h (rnd_rows q).1 (rnd_rows q).2 (pok_rnd h.1) (pma_rnd q) (fnd_rnd h.2.2.2.2.2.2 h1)
theorem pgd_toK {ki : Int} {q : Pc} (h : pgd q) : pgd (toK ki q) := by
  unfold toK rndK
  split
  · split
    · exact pgd_rnd h (by assumption)
    · exact h
  · exact h
/-- pieces that are made of rising keys -/
theorem mkk_good {kind E : Int} {f : Nat → Int} {n : Nat} (hE : 0 ≤ E ∧ E ≤ 40) (hk : kind = 2 → 1 ≤ E) (hf : okF f n) (hn : n ≤ 600) :
    (∀ q, q ∈ mkk kind E f n → pgd q ∧ plt q = [] ∧ ∀ x, x ∈ vals q → ∃ i, i < n ∧ x = f i) ∧ (mkk kind E f n).Pairwise ordR := by
  rw [mkk_toK]
  have hm : 0 ≤ (if kind = 2 then E - 1 else E) ∧ (if kind = 2 then E - 1 else E) ≤ E := by
    by_cases c : kind = 2
    · rw [if_pos c]; have := hk c; omega
    · rw [if_neg c]; omega
  generalize (if kind = 2 then E - 1 else E) = m at *
  have get : ∀ p q, ((mk m E f n).map (toK kind))[p]? = some q → ∃ n' : Nat, q = toK kind (pcOf m E (fun i => f (ksum ((mk m E f n).take p) + i)) n') ∧ 1 ≤ n' ∧ ksum ((mk m E f n).take p) + n' ≤ n ∧ fitS (allF m (fun i => f (ksum ((mk m E f n).take p) + i)) (n' - 1)) ∧ ksum ((mk m E f n).take (p + 1)) = ksum ((mk m E f n).take p) + n' := by
    intro p q h
    rw [List.getElem?_map] at h
    obtain ⟨q0, h0, rfl⟩ := Option.map_eq_some_iff.mp h
    obtain ⟨n', g1, g2, g3, g4⟩ := mkGo_get hm.1 n f n p q0 (Nat.le_refl _) h0
    refine ⟨n', by rw [g1]; rfl, g2, g3, g4, ?_⟩
    rw [ksum_succ h0, g1, len_pcOf]
  have vl : ∀ p q, ((mk m E f n).map (toK kind))[p]? = some q → ∀ x, x ∈ vals q → ∃ i, ksum ((mk m E f n).take p) ≤ i ∧ i < ksum ((mk m E f n).take (p + 1)) ∧ i < n ∧ x = f i := by
    intro p q h x hx
    obtain ⟨n', g1, g2, g3, g4, g5⟩ := get p q h
    rw [g1, vals_rows (toK_rows kind _).1 (toK_rows kind _).2] at hx
    obtain ⟨i, hi, rfl⟩ := vals_pcOf hx
    exact ⟨ksum ((mk m E f n).take p) + i, by omega, by omega, by omega, rfl⟩
  refine ⟨fun q hq => ?_, pw_of fun i j a b hij ha hb x hx y hy => ?_⟩
  · obtain ⟨p, hp⟩ := List.mem_iff_getElem?.mp hq
    obtain ⟨n', g1, g2, g3, g4, g5⟩ := get p q hp
    refine ⟨?_, by rw [g1]; exact (toK_rows kind _).2, fun x hx => ?_⟩
    · rw [g1]
      exact pgd_toK (pgd_pcOf (hf.from g3) g2 (by omega) hm.1 hm.2 hE.2 g4)
    · obtain ⟨i, -, -, h1, h2⟩ := vl p q hp x hx
      exact ⟨i, h1, h2⟩
  · obtain ⟨i1, a1, a2, a3, rfl⟩ := vl i a ha x hx
    obtain ⟨j1, b1, b2, b3, rfl⟩ := vl j b hb y hy
    have := ksum_mono (l := mk m E f n) (p := i + 1) (r := j) (by omega)
    exact hf.2 i1 j1 (by omega) b3
