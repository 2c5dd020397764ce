/-! ===== pieces that are made are as pieces must be ===== -/
theorem pok_pcOf {m E : Int} {f : Nat → Int} {n : Nat} (hf : okF f n) (hn0 : 1 ≤ n) (hn : n ≤ 600) (hm : 0 ≤ m ∧ m ≤ 40) : pok (pcOf m E f n) := by
  have hl := len_pcOf m E f n
  refine ⟨⟨?_, by rw [hl]; exact hn0, by rw [hl]; exact hn⟩, ?_, fun i hi => ?_, fun i hi => ?_⟩
  · unfold pln pcOf
    by_cases h : n = 1
    · rw [if_pos h]
      simp only [if_pos h]
      unfold LineB
      dsimp only
      omega
    · simp only [if_neg h]
      have huo := UpOk_allF hf hm.1 (n - 2) (by omega)
      rw [show n - 2 + 1 = n - 1 by omega] at huo
      exact (line_bd hf hn hm (StB_allF hf hn hm (n - 1) (by omega)) huo).1
  · unfold kik pki pcOf
    by_cases h : n = 1
    · left; simp [h]
    · right; left; simp [h]
  · rw [hl] at hi
    rw [kf_pcOf hi]
    exact hf.1 i hi
  · rw [hl] at hi
    left
    exact df_pcOf hi
theorem pok_mkGo {m E : Int} (hm : 0 ≤ m ∧ m ≤ 40) : ∀ (d : Nat) (f : Nat → Int) (n : Nat), okF f n → n ≤ 600 → ∀ q, q ∈ mkGo m E d f n → pok q
  | 0, f, n, hf, hn, q, hq => by unfold mkGo at hq; simp at hq
  | d + 1, f, n, hf, hn, q, hq => by
    unfold mkGo at hq
    split at hq
    · simp at hq
    · have h1 := spanLen_pos (m := m) (f := f) (n := n) (by omega)
      rcases List.mem_cons.mp hq with rfl | hq
      · exact pok_pcOf (hf.le h1.2) h1.1 (by omega) hm
      · exact pok_mkGo hm d _ _ hf.shift (by omega) q hq
theorem fk_zero (q : Pc) (l : List Pc) : fk (q :: l) 0 = kf q 0 := by unfold fk; simp
theorem fk_succ (q : Pc) (l : List Pc) (i : Nat) : fk (q :: l) (i + 1) = fk l i := by unfold fk; simp
/-- the first keys of pieces that are made: keys of those that they are made of, rising -/
theorem fk_mkGo {m E : Int} : ∀ (d : Nat) (f : Nat → Int) (n : Nat), okF f n → n ≤ d → (∀ i, i < (mkGo m E d f n).length → ∃ j, i ≤ j ∧ j < n ∧ fk (mkGo m E d f n) i = f j) ∧ (∀ i j, i < j → j < (mkGo m E d f n).length → fk (mkGo m E d f n) i < fk (mkGo m E d f n) j)
  | 0, f, n, hf, hd => by
    unfold mkGo
    exact ⟨fun i hi => absurd hi (Nat.not_lt_zero _), fun i j _ hj => absurd hj (Nat.not_lt_zero _)⟩
  | d + 1, f, n, hf, hd => by
    unfold mkGo
    split
    · exact ⟨fun i hi => absurd hi (Nat.not_lt_zero _), fun i j _ hj => absurd hj (Nat.not_lt_zero _)⟩
    · have h1 := spanLen_pos (m := m) (f := f) (n := n) (by omega)
      generalize spanLen m f n = s at *
      obtain ⟨i1, i2⟩ := fk_mkGo (m := m) (E := E) d (fun i => f (s + i)) (n - s) hf.shift (by omega)
      have h0 : kf (pcOf m E f s) 0 = f 0 := kf_pcOf (by omega)
      refine ⟨fun i hi => ?_, fun i j hij hj => ?_⟩
      · cases i with
        | zero => exact ⟨0, Nat.le_refl _, by omega, by rw [fk_zero, h0]⟩
        | succ i =>
          rw [List.length_cons] at hi
          obtain ⟨j, a, b, c⟩ := i1 i (by omega)
          exact ⟨s + j, by omega, by omega, by rw [fk_succ, c]⟩
      · rw [List.length_cons] at hj
        cases j with
        | zero => omega
        | succ j =>
          rw [fk_succ]
          cases i with
          | zero =>
            obtain ⟨r, a, b, c⟩ := i1 j (by omega)
            rw [fk_zero, h0, c]
            exact hf.2 0 (s + r) (by omega) (by omega)
          | succ i =>
            rw [fk_succ]
            exact i2 i j (by omega) (by omega)
theorem okF_fk_mk {m E : Int} {f : Nat → Int} {n : Nat} (hf : okF f n) : okF (fk (mk m E f n)) (mk m E f n).length := by
  obtain ⟨i1, i2⟩ := fk_mkGo (m := m) (E := E) n f n hf (Nat.le_refl _)
  refine ⟨fun i hi => ?_, i2⟩
  obtain ⟨j, -, b, c⟩ := i1 i hi
  have : fk (mk m E f n) i = f j := c
  rw [this]
  exact hf.1 j b
