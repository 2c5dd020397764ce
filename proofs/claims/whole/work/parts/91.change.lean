/-! ===== pieces change, and stay as they must be ===== -/
theorem lsc_spec (f : Nat → Int) (k : Int) : ∀ n, (∀ j, (lsc f k n).1 ≤ j → j < n → k < f j) ∧ ((lsc f k n).1 = 0 ∨ f ((lsc f k n).1 - 1) ≤ k) ∧ ((lsc f k n).2.2 = 1 → 1 ≤ (lsc f k n).1 ∧ f ((lsc f k n).1 - 1) = k) ∧ ((lsc f k n).2.2 = 0 → (lsc f k n).1 = 0 ∨ f ((lsc f k n).1 - 1) ≠ k)
  | 0 => ⟨fun j h1 h2 => absurd h2 (Nat.not_lt_zero _), Or.inl rfl, fun h => by unfold lsc at h; simp at h, fun _ => Or.inl rfl⟩
  | n + 1 => by
    obtain ⟨a, b, c, d⟩ := lsc_spec f k n
    unfold lsc
    split
    · rename_i h
      refine ⟨fun j h1 h2 => ?_, b, c, d⟩
      rcases Nat.lt_or_ge j n with w | w
      · exact a j h1 w
      · rw [show j = n by omega]; exact h
    · rename_i h
      dsimp only
      rw [Nat.add_sub_cancel]
      refine ⟨fun j h1 h2 => by omega, Or.inr (by omega), fun h' => ⟨by omega, ?_⟩, fun h' => Or.inr fun e => ?_⟩
      · by_cases e : f n = k
        · exact e
        · rw [if_neg e] at h'; omega
      · rw [if_pos e] at h'; omega
/-- a key of a piece is found at its place -/
theorem key_at {q : Pc} (h : pgd q) {i : Nat} (hi : i < (pks q).length) : (dsc q (kf q i)).1 = i := by
  obtain ⟨d1, d2⟩ := dst_lt (k := kf q i) h.1 h.2.1
  obtain ⟨a, b⟩ := scan_spec (kf q) (kf q i) (dst q (kf q i))
  have hf := h.2.2.2.2.2.2 i hi
  have e : (dsc q (kf q i)).1 = (scan (kf q) (kf q i) (dst q (kf q i))).1 := rfl
  have hle := (scan_le (kf q) (kf q i) (dst q (kf q i))).1
  rw [e]
  generalize (scan (kf q) (kf q i) (dst q (kf q i))).1 = r at *
  rcases Nat.lt_trichotomy r i with w | w | w
  · have := b i w (by omega); omega
  · exact w
  · have := rising_kf h.2.2.1 w (by omega)
    rcases a with a | a <;> omega
theorem gs_setD (q : Pc) (i : Nat) (d x : Int) : gs (setD q i d) x = gs q x := by
  unfold gs
  rw [setD_len]
  rfl
theorem dg_setD (q : Pc) (i : Nat) (d x : Int) : dg (setD q i d) x = dg q x := by
  unfold dg
  rw [gs_setD, kf_setD]
theorem vals_setD (q : Pc) (i : Nat) (d : Int) : vals (setD q i d) = vals q := by
  have e2 : plt (setD q i d) = plt q := rfl
  have e1 : (pks (setD q i d)).map Prod.fst = (pks q).map Prod.fst := by
    refine List.ext_getElem (by simp [setD_len]) fun j h1 h2 => ?_
    rw [List.length_map] at h1 h2
    have a1 := List.getElem?_eq_getElem h1
    have a2 := List.getElem?_eq_getElem h2
    have k := kf_setD q i d j
    unfold kf at k
    rw [a1, a2] at k
    simpa using k
  unfold vals
  rw [e1, e2]
theorem pgd_setD {q : Pc} {i : Nat} {d : Int} (h : pgd q) (hi : i < (pks q).length) (hd : d = 0 ∨ d = 1) : pgd (setD q i d) := by
  obtain ⟨⟨⟨a1, a2, a3⟩, b, c, e⟩, m, r1, r2, dj, rg, fd⟩ := h
  have e1 : (pks (setD q i d)).map Prod.fst = (pks q).map Prod.fst := by
    have := vals_setD q i d
    have e2 : plt (setD q i d) = plt q := rfl
    unfold vals at this
    rw [e2] at this
    exact List.append_cancel_right this
  refine ⟨⟨⟨a1, by rw [setD_len]; exact a2, by rw [setD_len]; exact a3⟩, b, fun j hj => ?_, fun j hj => ?_⟩, m, by rw [e1]; exact r1, r2, fun t ht x hx => ?_, rg, fun j hj => ?_⟩
  · rw [setD_len] at hj; rw [kf_setD]; exact c j hj
  · rw [setD_len] at hj; rw [df_setD hi]
    split
    · exact hd
    · exact e j hj
  · have hx' : x.1 ∈ (pks (setD q i d)).map Prod.fst := List.mem_map.mpr ⟨x, hx, rfl⟩
    rw [e1] at hx'
    obtain ⟨y, hy, hy2⟩ := List.mem_map.mp hx'
    rw [← hy2]
    exact dj t ht y hy
  · rw [setD_len] at hj
    rw [kf_setD, dg_setD]
    exact fd j hj
theorem pgd_insL {q : Pc} {k : Int} (h : pgd q) (hk : inR k) (hn : k ∉ (pks q).map Prod.fst) (hl : (lsc (tf q) k (plt q).length).2.2 = 0) : pgd (insL q (lsc (tf q) k (plt q).length).1 k) := by
  obtain ⟨a, m, r1, r2, dj, rg, fd⟩ := h
  obtain ⟨s1, s2, -, s4⟩ := lsc_spec (tf q) k (plt q).length
  have hle := (lsc_le (tf q) k (plt q).length).1
  have s4 := s4 hl
  generalize (lsc (tf q) k (plt q).length).1 = i at *
  have mem : ∀ t, t ∈ plt (insL q i k) → t = k ∨ t ∈ plt q := fun t ht => by
    rcases List.mem_append.mp (show t ∈ (plt q).take i ++ k :: (plt q).drop i from ht) with w | w
    · exact Or.inr (List.mem_of_mem_take w)
    · rcases List.mem_cons.mp w with w | w
      · exact Or.inl w
      · exact Or.inr (List.mem_of_mem_drop w)
  have below : ∀ j, j < i → tf q j < k := fun j hj => by
    have h1 : tf q (i - 1) < k := by rcases s2 with s2 | s2 <;> rcases s4 with s4 | s4 <;> omega
    rcases Nat.lt_or_ge j (i - 1) with w | w
    · have := rising_tf r2 w (by omega); omega
    · rw [show j = i - 1 by omega]; exact h1
  refine ⟨a, m, r1, rising_of_tf fun x y hxy hy => ?_, fun t ht x hx => ?_, fun t ht => ?_, fd⟩
  · rw [insL_len hle] at hy
    show tf (insL q i k) x < tf (insL q i k) y
    rw [tf_ins hle, tf_ins hle]
    by_cases c1 : x < i
    · rw [if_pos c1]
      by_cases c2 : y < i
      · rw [if_pos c2]; exact rising_tf r2 hxy (by omega)
      · rw [if_neg c2]
        by_cases c3 : y = i
        · rw [if_pos c3]; exact below x c1
        · rw [if_neg c3]; exact rising_tf r2 (by omega) (by omega)
    · rw [if_neg c1, if_neg (show ¬ y < i by omega), if_neg (show ¬ y = i by omega)]
      by_cases c2 : x = i
      · rw [if_pos c2]; exact s1 (y - 1) (by omega) (by omega)
      · rw [if_neg c2]; exact rising_tf r2 (by omega) (by omega)
  · rcases mem t ht with rfl | w
    · intro e
      exact hn (List.mem_map.mpr ⟨x, hx, e.symm⟩)
    · exact dj t w x hx
  · rcases mem t ht with rfl | w
    · exact hk
    · exact rg t w
theorem vals_insL {q : Pc} {i : Nat} {k x : Int} (h : x ∈ vals (insL q i k)) : x = k ∨ x ∈ vals q := by
  rcases List.mem_append.mp h with w | w
  · exact Or.inr (List.mem_append_left _ w)
  · rcases List.mem_append.mp (show x ∈ (plt q).take i ++ k :: (plt q).drop i from w) with w | w
    · exact Or.inr (List.mem_append_right _ (List.mem_of_mem_take w))
    · rcases List.mem_cons.mp w with w | w
      · exact Or.inl w
      · exact Or.inr (List.mem_append_right _ (List.mem_of_mem_drop w))
theorem vals_delL {q : Pc} {i : Nat} {x : Int} (h : x ∈ vals (delL q i)) : x ∈ vals q := by
  rcases List.mem_append.mp h with w | w
  · exact List.mem_append_left _ w
  · rcases List.mem_append.mp (show x ∈ (plt q).take i ++ (plt q).drop (i + 1) from w) with w | w
    · exact List.mem_append_right _ (List.mem_of_mem_take w)
    · exact List.mem_append_right _ (List.mem_of_mem_drop w)
theorem plt_delL {q : Pc} {i : Nat} {x : Int} (h : x ∈ plt (delL q i)) : x ∈ plt q := by
  rcases List.mem_append.mp (show x ∈ (plt q).take i ++ (plt q).drop (i + 1) from h) with w | w
  · exact List.mem_of_mem_take w
  · exact List.mem_of_mem_drop w
theorem pgd_delL {q : Pc} {i : Nat} (h : pgd q) (hi : i < (plt q).length) : pgd (delL q i) := by
  obtain ⟨a, m, r1, r2, dj, rg, fd⟩ := h
  have hl := delL_len hi
  refine ⟨a, m, r1, rising_of_tf fun x y hxy hy => ?_, fun t ht x hx => dj t (plt_delL ht) x hx, fun t ht => rg t (plt_delL ht), fd⟩
  show tf (delL q i) x < tf (delL q i) y
  rw [tf_del hi, tf_del hi]
  by_cases c1 : x < i
  · rw [if_pos c1]
    by_cases c2 : y < i
    · rw [if_pos c2]; exact rising_tf r2 hxy (by omega)
    · rw [if_neg c2]; exact rising_tf r2 (by omega) (by omega)
  · rw [if_neg c1, if_neg (by omega)]; exact rising_tf r2 (by omega) (by omega)
/-! lists of pieces -/
theorem WL_set {l : List Pc} {p : Nat} {q q' : Pc} (h : WL l) (hq : l[p]? = some q) (hg : pgd q') (hlo : ∀ x, x ∈ vals q' → ∀ i a, i < p → l[i]? = some a → ∀ y, y ∈ vals a → y < x) (hhi : ∀ x, x ∈ vals q' → ∀ j a, p < j → l[j]? = some a → ∀ y, y ∈ vals a → x < y) (hr : 1 ≤ p → ∀ t, t ∈ plt q' → kf q' 0 < t) : WL (l.set p q') := by
  have hp := (List.getElem?_eq_some_iff.mp hq).1
  obtain ⟨h1, h2, h3⟩ := h
  refine ⟨fun x hx => ?_, pw_of fun i j a b hij ha hb => ?_, fun r x hr1 hx t ht => ?_⟩
  · rcases List.mem_or_eq_of_mem_set hx with w | w
    · exact h1 x w
    · rw [w]; exact hg
  · by_cases c1 : i = p
    · subst c1
      rw [List.getElem?_set_self hp] at ha
      cases ha
      rw [List.getElem?_set_ne (by omega)] at hb
      exact fun x hx y hy => hhi x hx j b hij hb y hy
    · rw [List.getElem?_set_ne (by omega)] at ha
      by_cases c2 : j = p
      · subst c2
        rw [List.getElem?_set_self hp] at hb
        cases hb
        exact fun x hx y hy => hlo y hy i a hij ha x hx
      · rw [List.getElem?_set_ne (by omega)] at hb
        exact pw_get h2 hij ha hb
  · by_cases c1 : r = p
    · subst c1
      rw [List.getElem?_set_self hp] at hx
      cases hx
      exact hr hr1 t ht
    · rw [List.getElem?_set_ne (by omega)] at hx
      exact h3 r x hr1 hx t ht
theorem WL_sub {l : List Pc} {p : Nat} {q q' : Pc} (h : WL l) (hq : l[p]? = some q) (hg : pgd q') (hv : ∀ x, x ∈ vals q' → x ∈ vals q) (hk : kf q' 0 = kf q 0) (ht : ∀ t, t ∈ plt q' → t ∈ plt q) : WL (l.set p q') :=
  WL_set h hq hg (fun x hx i a hi ha y hy => pw_get h.2.1 hi ha hq y hy x (hv x hx)) (fun x hx j a hj ha y hy => pw_get h.2.1 hj hq ha x (hv x hx) y hy) (fun h1 t w => by rw [hk]; exact h.2.2 p q h1 hq t (ht t w))
theorem val_first {l : List Pc} (h : WL l) {p : Nat} {q : Pc} (h1 : 1 ≤ p) (hq : l[p]? = some q) {x : Int} (hx : x ∈ vals q) : kf q 0 ≤ x := by
  rcases List.mem_append.mp hx with w | w
  · obtain ⟨i, hi, rfl⟩ := mem_kf w
    rcases Nat.eq_zero_or_pos i with rfl | h0
    · exact Int.le_refl _
    · exact Int.le_of_lt (rising_kf (h.1 q (List.mem_of_getElem? hq)).2.2.1 h0 hi)
  · exact Int.le_of_lt (h.2.2 p q h1 hq x w)
theorem WL_insL {l : List Pc} {p : Nat} {q : Pc} {k : Int} (h : WL l) (hq : l[p]? = some q) (hk : inR k) (hn : k ∉ (pks q).map Prod.fst) (hl : (lsc (tf q) k (plt q).length).2.2 = 0) (hloc : loc (fk l) l.length k p) : WL (l.set p (insL q (lsc (tf q) k (plt q).length).1 k)) := by
  have hg := h.1 q (List.mem_of_getElem? hq)
  refine WL_set h hq (pgd_insL hg hk hn hl) (fun x hx i a hi ha y hy => ?_) (fun x hx j a hj ha y hy => ?_) (fun h1 t ht => ?_)
  · rcases vals_insL hx with rfl | w
    · have h2 := pw_get h.2.1 hi ha hq y hy _ (pgd_kf0 hg)
      rcases hloc.1 with h3 | h3
      · omega
      · rw [fk_at hq] at h3; omega
    · exact pw_get h.2.1 hi ha hq y hy x w
  · rcases vals_insL hx with rfl | w
    · have h3 := hloc.2 j hj (List.getElem?_eq_some_iff.mp ha).1
      rw [fk_at ha] at h3
      have := val_first h (by omega) ha hy
      omega
    · exact pw_get h.2.1 hj hq ha x w y hy
  · have e : kf (insL q (lsc (tf q) k (plt q).length).1 k) 0 = kf q 0 := rfl
    rw [e]
    rcases List.mem_append.mp (show t ∈ (plt q).take (lsc (tf q) k (plt q).length).1 ++ k :: (plt q).drop (lsc (tf q) k (plt q).length).1 from ht) with w | w
    · exact h.2.2 p q h1 hq t (List.mem_of_mem_take w)
    · rcases List.mem_cons.mp w with rfl | w
      · rcases hloc.1 with h3 | h3
        · omega
        · rw [fk_at hq] at h3
          have hne : kf q 0 ≠ t := fun e => hn (by rw [← e]; exact kf_mem (by have := hg.1.1.2.1; omega))
          omega
      · exact h.2.2 p q h1 hq t (List.mem_of_mem_drop w)
theorem WL_made {kind E : Int} {L : List Int} (hE : 0 ≤ E ∧ E ≤ 40) (hk : kind = 2 → 1 ≤ E) (hr : rising L) (hb : ∀ x, x ∈ L → inR x) (hn : L.length ≤ 600) : WL (mkk kind E (lf L) L.length) := by
  obtain ⟨g1, g2⟩ := mkk_good hE hk (okF_lf hr hb) hn
  exact ⟨fun q hq => (g1 q hq).1, g2, fun p q _ hq t ht => by rw [(g1 q (List.mem_of_getElem? hq)).2.1] at ht; simp at ht⟩
theorem get_app3 {a b c : List Pc} {i : Nat} {x : Pc} (h : (a ++ b ++ c)[i]? = some x) : (i < a.length ∧ a[i]? = some x) ∨ (a.length ≤ i ∧ i < a.length + b.length ∧ b[i - a.length]? = some x) ∨ (a.length + b.length ≤ i ∧ c[i - (a.length + b.length)]? = some x) := by
  rcases Nat.lt_or_ge i (a ++ b).length with w | w
  · rw [List.getElem?_append_left w] at h
    rcases Nat.lt_or_ge i a.length with v | v
    · rw [List.getElem?_append_left v] at h; exact Or.inl ⟨v, h⟩
    · rw [List.getElem?_append_right v] at h
      rw [List.length_append] at w
      exact Or.inr (Or.inl ⟨v, w, h⟩)
  · rw [List.getElem?_append_right w] at h
    rw [List.length_append] at w h
    exact Or.inr (Or.inr ⟨w, h⟩)
theorem WL_replace {kind E : Int} {l : List Pc} {fr to : Nat} (h : WL l) (hE : 0 ≤ E ∧ E ≤ 40) (hk : kind = 2 → 1 ≤ E) (hft : fr ≤ to) (hto : to ≤ l.length) (h1 : 1 ≤ to) (hn : (GT ((l.take to).drop fr)).length ≤ 600) :
    WL (l.take fr ++ mkk kind E (lf (GT ((l.take to).drop fr))) (GT ((l.take to).drop fr)).length ++ l.drop to) ∧
    GT (l.take fr ++ mkk kind E (lf (GT ((l.take to).drop fr))) (GT ((l.take to).drop fr)).length ++ l.drop to) = GT l := by
  have sub : ((l.take to).drop fr).Pairwise ordR := (h.2.1.sublist (List.take_sublist to l)).sublist (List.drop_sublist fr _)
  have mem : ∀ q, q ∈ (l.take to).drop fr → q ∈ l := fun q hq => List.mem_of_mem_take (List.mem_of_mem_drop hq)
  have hr : rising (GT ((l.take to).drop fr)) := GT_rising (fun q hq => h.1 q (mem q hq)) sub
  have hb := GT_inR (l := (l.take to).drop fr) (fun q hq => h.1 q (mem q hq))
  have hok := okF_lf hr hb
  obtain ⟨g1, g2⟩ := mkk_good (kind := kind) hE hk hok hn
  have mid : ∀ q, q ∈ mkk kind E (lf (GT ((l.take to).drop fr))) (GT ((l.take to).drop fr)).length → ∀ x, x ∈ vals q → ∃ j b, fr ≤ j ∧ j < to ∧ l[j]? = some b ∧ x ∈ vals b := fun q hq x hx => by
    obtain ⟨i, hi, rfl⟩ := (g1 q hq).2.2 x hx
    rw [lf_of (List.getElem?_eq_getElem hi)]
    obtain ⟨b, hb1, hb2⟩ := GT_mem (List.getElem_mem hi)
    obtain ⟨r, hr⟩ := List.mem_iff_getElem?.mp hb1
    have hlt := (List.getElem?_eq_some_iff.mp hr).1
    rw [List.length_drop, List.length_take] at hlt
    rw [List.getElem?_drop, List.getElem?_take, if_pos (by omega)] at hr
    exact ⟨fr + r, b, by omega, by omega, hr, mq_mem hb2⟩
  have gtn : GT (mkk kind E (lf (GT ((l.take to).drop fr))) (GT ((l.take to).drop fr)).length) = GT ((l.take to).drop fr) := by rw [GT_mkk, map_lf]
  have lfr : (l.take fr).length = fr := by rw [List.length_take]; omega
  have take_get : ∀ i a, (l.take fr)[i]? = some a → i < fr ∧ l[i]? = some a := fun i a ha => by
    have := (List.getElem?_eq_some_iff.mp ha).1
    rw [lfr] at this
    rw [List.getElem?_take, if_pos this] at ha
    exact ⟨this, ha⟩
  refine ⟨⟨fun q hq => ?_, pw_of fun i j a b hij ha hb2 x hx y hy => ?_, fun p q hp hq t ht => ?_⟩, ?_⟩
  · rcases List.mem_append.mp hq with hq | hq
    · rcases List.mem_append.mp hq with hq | hq
      · exact h.1 q (List.mem_of_mem_take hq)
      · exact (g1 q hq).1
    · exact h.1 q (List.mem_of_mem_drop hq)
  · rcases get_app3 ha with ⟨a1, a2⟩ | ⟨a1, a2, a3⟩ | ⟨a1, a2⟩
    · obtain ⟨a3, a4⟩ := take_get i a a2
      rcases get_app3 hb2 with ⟨b1, b2⟩ | ⟨b1, b2, b3⟩ | ⟨b1, b2⟩
      · exact pw_get h.2.1 hij a4 (take_get j b b2).2 x hx y hy
      · obtain ⟨r, c, c1, c2, c3, c4⟩ := mid b (List.mem_of_getElem? b3) y hy
        exact pw_get h.2.1 (by omega) a4 c3 x hx y c4
      · rw [List.getElem?_drop] at b2
        exact pw_get h.2.1 (by omega) a4 b2 x hx y hy
    · obtain ⟨r, c, c1, c2, c3, c4⟩ := mid a (List.mem_of_getElem? a3) x hx
      rcases get_app3 hb2 with ⟨b1, b2⟩ | ⟨b1, b2, b3⟩ | ⟨b1, b2⟩
      · omega
      · exact pw_get g2 (by omega) a3 b3 x hx y hy
      · rw [List.getElem?_drop] at b2
        exact pw_get h.2.1 (by omega) c3 b2 x c4 y hy
    · rw [List.getElem?_drop] at a2
      rcases get_app3 hb2 with ⟨b1, b2⟩ | ⟨b1, b2, b3⟩ | ⟨b1, b2⟩
      · omega
      · omega
      · rw [List.getElem?_drop] at b2
        exact pw_get h.2.1 (by omega) a2 b2 x hx y hy
  · rcases get_app3 hq with ⟨a1, a2⟩ | ⟨a1, a2, a3⟩ | ⟨a1, a2⟩
    · exact h.2.2 p q hp (take_get p q a2).2 t ht
    · rw [(g1 q (List.mem_of_getElem? a3)).2.1] at ht; simp at ht
    · rw [List.getElem?_drop] at a2
      exact h.2.2 _ q (by omega) a2 t ht
  · rw [GT_app, GT_app, gtn]
    have e : (l.take to).take fr = l.take fr := by rw [List.take_take, Nat.min_eq_left hft]
    rw [← e, ← GT_app, List.take_append_drop, ← GT_app, List.take_append_drop]
/-! how many are there -/
theorem GT_len_set : ∀ {l : List Pc} {p : Nat} {q q' : Pc}, l[p]? = some q → (GT (l.set p q')).length + (mq q).length = (GT l).length + (mq q').length
  | [], p, q, q', h => by simp at h
  | x :: l, 0, q, q', h => by
    simp at h
    subst h
    rw [List.set_cons_zero, GT_cons, GT_cons, List.length_append, List.length_append]; omega
  | x :: l, p + 1, q, q', h => by
    have := GT_len_set (l := l) (p := p) (q' := q') (by simpa using h)
    rw [List.set_cons_succ, GT_cons, GT_cons, List.length_append, List.length_append]; omega
theorem cnt0_set : ∀ {L : List (Int × Int)} {i : Nat} {k d k' d' : Int}, L[i]? = some (k, d) → cnt0 (L.set i (k', d')) + (if d = 0 then 1 else 0) = cnt0 L + (if d' = 0 then 1 else 0)
  | [], i, k, d, k', d', h => by simp at h
  | x :: L, 0, k, d, k', d', h => by
    simp at h
    subst h
    rw [List.set_cons_zero]
    show (if d' = 0 then 1 else 0) + cnt0 L + _ = (if d = 0 then 1 else 0) + cnt0 L + _
    omega
  | x :: L, i + 1, k, d, k', d', h => by
    have := cnt0_set (L := L) (i := i) (k' := k') (d' := d') (show L[i]? = some (k, d) by simpa using h)
    rw [List.set_cons_succ]
    show (if x.2 = 0 then 1 else 0) + cnt0 (L.set i (k', d')) + _ = (if x.2 = 0 then 1 else 0) + cnt0 L + _
    omega
theorem mq_len_setD {q : Pc} {i : Nat} {d : Int} (hi : i < (pks q).length) : (mq (setD q i d)).length + (if df q i = 0 then 1 else 0) = (mq q).length + (if d = 0 then 1 else 0) := by
  have e := List.getElem?_eq_getElem hi
  generalize (pks q)[i] = x at e
  obtain ⟨k, d0⟩ := x
  have h := cnt0_set (k' := kf q i) (d' := d) e
  rw [mq_length, mq_length, (kf_of e).2]
  have e1 : pks (setD q i d) = (pks q).set i (kf q i, d) := rfl
  have e2 : plt (setD q i d) = plt q := rfl
  rw [e1, e2]
  omega
theorem mq_len_insL {q : Pc} {i : Nat} {k : Int} (hi : i ≤ (plt q).length) : (mq (insL q i k)).length = (mq q).length + 1 := by
  rw [mq_length, mq_length, insL_len hi]
  have e1 : pks (insL q i k) = pks q := rfl
  rw [e1]; omega
theorem mq_len_delL {q : Pc} {i : Nat} (hi : i < (plt q).length) : (mq (delL q i)).length + 1 = (mq q).length := by
  have := delL_len hi
  rw [mq_length, mq_length]
  have e1 : pks (delL q i) = pks q := rfl
  rw [e1]; omega
/-! the layers depend on first keys alone -/
theorem fk_set {l : List Pc} {p : Nat} {q q' : Pc} (hq : l[p]? = some q) (h : kf q' 0 = kf q 0) : fk (l.set p q') = fk l := by
  funext i
  unfold fk
  by_cases e : i = p
  · subst e
    rw [List.getElem?_set_self (List.getElem?_eq_some_iff.mp hq).1, hq]
    exact h
  · rw [List.getElem?_set_ne (by omega)]
theorem lys_set {E : Int} {d : Nat} {l : List Pc} {p : Nat} {q q' : Pc} (hq : l[p]? = some q) (h : kf q' 0 = kf q 0) : lys E d (l.set p q') = lys E d l := by
  cases d with
  | zero => rfl
  | succ d =>
    unfold lys
    rw [fk_set hq h, List.length_set]
