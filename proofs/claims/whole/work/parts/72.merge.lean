/-! ===== the keys that are there: keys and late keys merged ===== -/
/-- as the class merges: the late key first if it is below, else the key, if it is not dropped -/
def mg : List (Int × Int) → List Int → List Int
  | [], ts => ts
  | (k, d) :: ks, [] => if d = 0 then k :: mg ks [] else mg ks []
  | (k, d) :: ks, t :: ts => if t < k then t :: mg ((k, d) :: ks) ts else if d = 0 then k :: mg ks (t :: ts) else mg ks (t :: ts)
  termination_by ks ts => ks.length + ts.length
theorem mg_nil (ts : List Int) : mg [] ts = ts := by rw [mg]
theorem mg_cn (k d : Int) (ks : List (Int × Int)) : mg ((k, d) :: ks) [] = if d = 0 then k :: mg ks [] else mg ks [] := by rw [mg]
theorem mg_cc (k d t : Int) (ks : List (Int × Int)) (ts : List Int) : mg ((k, d) :: ks) (t :: ts) = if t < k then t :: mg ((k, d) :: ks) ts else if d = 0 then k :: mg ks (t :: ts) else mg ks (t :: ts) := by rw [mg]
/-- two runs, one behind the other, merge one behind the other -/
theorem mg_append : ∀ (n : Nat) (ks ks' : List (Int × Int)) (ts ts' : List Int), ks.length + ts.length ≤ n → (∀ t, t ∈ ts → ∀ k, k ∈ ks' → t < k.1) → (∀ k, k ∈ ks → ∀ t, t ∈ ts' → ¬ t < k.1) → (ts ≠ [] → ks' = [] → True) → mg (ks ++ ks') (ts ++ ts') = mg ks ts ++ mg ks' ts'
  | n, [], ks', [], ts', hn, h1, h2, h3 => by simp [mg]
  | n, [], [], t :: ts, ts', hn, h1, h2, h3 => by simp [mg]
  | 0, [], k' :: ks', t :: ts, ts', hn, h1, h2, h3 => by simp at hn
  | n + 1, [], (k', d') :: ks', t :: ts, ts', hn, h1, h2, h3 => by
    have h := mg_append n [] ((k', d') :: ks') ts ts' (by simp at hn ⊢; omega) (fun x hx => h1 x (List.mem_cons_of_mem _ hx)) (fun k hk => by simp at hk) (fun _ _ => trivial)
    have hlt := h1 t List.mem_cons_self (k', d') List.mem_cons_self
    simp only [List.nil_append, List.cons_append] at h ⊢
    rw [mg_cc, if_pos hlt, h]
    simp [mg_nil]
  | 0, (k, d) :: ks, ks', ts, ts', hn, h1, h2, h3 => by simp at hn
  | n + 1, (k, d) :: ks, ks', [], ts', hn, h1, h2, h3 => by
    have h := mg_append n ks ks' [] ts' (by simp at hn ⊢; omega) (fun x hx => by simp at hx) (fun x hx => h2 x (List.mem_cons_of_mem _ hx)) (fun _ _ => trivial)
    simp only [List.nil_append, List.cons_append] at h ⊢
    cases ts' with
    | nil =>
      rw [mg_cn, mg_cn]
      split
      · rw [h]; simp
      · exact h
    | cons t' ts' =>
      have hnl := h2 (k, d) List.mem_cons_self t' List.mem_cons_self
      rw [mg_cc, if_neg hnl, mg_cn]
      split
      · rw [h]; simp
      · exact h
  | n + 1, (k, d) :: ks, ks', t :: ts, ts', hn, h1, h2, h3 => by
    simp only [List.cons_append]
    rw [mg_cc, mg_cc]
    split
    · have h := mg_append n ((k, d) :: ks) ks' ts ts' (by simp at hn ⊢; omega) (fun x hx => h1 x (List.mem_cons_of_mem _ hx)) h2 (fun _ _ => trivial)
      simp only [List.cons_append] at h
      rw [h]; simp
    · have h := mg_append n ks ks' (t :: ts) ts' (by simp at hn ⊢; omega) h1 (fun x hx => h2 x (List.mem_cons_of_mem _ hx)) (fun _ _ => trivial)
      simp only [List.cons_append] at h
      split
      · rw [h]; simp
      · exact h
