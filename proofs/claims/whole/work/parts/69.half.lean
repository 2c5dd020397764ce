/-! ===== two keys always have a line: a layer has at most half of the pieces below ===== -/
theorem fit_two {m : Int} {f : Nat → Int} (hf : f 0 < f 1) (hm : 0 ≤ m) : fitS (allF m f 1) := by
  have e : allF m f 1 = pr m f 0 1 s0 := rfl
  rw [e, pr_s0 hf]
  unfold fitS
  dsimp only
  exact Int.mul_le_mul_of_nonneg_right (by omega) (by omega)
theorem spanLen_two {m : Int} {f : Nat → Int} {n : Nat} (hf : okF f n) (hn : 2 ≤ n) (hm : 0 ≤ m) : 2 ≤ spanLen m f n := by
  unfold spanLen
  obtain ⟨d, hd⟩ : ∃ d, n - 1 = d + 1 := ⟨n - 2, by omega⟩
  rw [hd]
  unfold spanGo
  rw [if_pos ⟨by omega, fit_two (hf.2 0 1 (by omega) (by omega)) hm⟩]
  exact (spanGo_le m f n d 2 hn).1
theorem len_mkGo_half {m E : Int} (hm : 0 ≤ m) : ∀ (d : Nat) (f : Nat → Int) (n : Nat), okF f n → 2 * (mkGo m E d f n).length ≤ n + 1
  | 0, f, n, hf => by unfold mkGo; simp
  | d + 1, f, n, hf => by
    unfold mkGo
    split
    · simp
    · have h1 := spanLen_pos (m := m) (f := f) (n := n) (by omega)
      rw [List.length_cons]
      rcases Nat.lt_or_ge n 2 with h2 | h2
      · have h3 := len_mkGo m E d (fun i => f (spanLen m f n + i)) (n - spanLen m f n)
        omega
      · have h3 := spanLen_two hf h2 hm
        have h4 := len_mkGo_half (E := E) hm d (fun i => f (spanLen m f n + i)) (n - spanLen m f n) hf.shift
        omega
theorem mkGo_pos {m E : Int} {f : Nat → Int} {n : Nat} (hn : 1 ≤ n) : 1 ≤ (mk m E f n).length := by
  unfold mk
  obtain ⟨d, rfl⟩ : ∃ d, n = d + 1 := ⟨n - 1, by omega⟩
  unfold mkGo
  rw [if_neg (by omega), List.length_cons]
  omega
/-- the layers over pieces -/
def lys (E : Int) : Nat → List Pc → List (List Pc)
  | 0, _ => []
  | d + 1, l => if 1 < l.length then mk E E (fk l) l.length :: lys E d (mk E E (fk l) l.length) else []
