/-! ===== the rows of a tier as lists ===== -/
def KS (l : List Pc) : List (Int × Int) := l.flatMap pks
def TS (l : List Pc) : List Int := l.flatMap plt
theorem KS_len (l : List Pc) : (KS l).length = ksum l := by unfold KS ksum; rw [List.length_flatMap]
theorem TS_len (l : List Pc) : (TS l).length = tsum l := by unfold TS tsum; rw [List.length_flatMap]
theorem KS_app (l l' : List Pc) : KS (l ++ l') = KS l ++ KS l' := by unfold KS; rw [List.flatMap_append]
theorem TS_app (l l' : List Pc) : TS (l ++ l') = TS l ++ TS l' := by unfold TS; rw [List.flatMap_append]
theorem KS_one (q : Pc) : KS [q] = pks q := by unfold KS; simp
theorem TS_one (q : Pc) : TS [q] = plt q := by unfold TS; simp
theorem kf_of {q : Pc} {i : Nat} {k d : Int} (h : (pks q)[i]? = some (k, d)) : kf q i = k ∧ df q i = d := by unfold kf df; rw [h]; exact ⟨rfl, rfl⟩
theorem tf_of {q : Pc} {i : Nat} {k : Int} (h : (plt q)[i]? = some k) : tf q i = k := by unfold tf; rw [h]; rfl
theorem TR.rows {M : Im} {t : Nat} {l : List Pc} (h : TR M t l) : ∀ r, r ≤ l.length → (∀ j k d, (KS (l.take r))[j]? = some (k, d) → gL M (t + 1) j = k ∧ gI M (t + 2) j = d) ∧ (∀ j k, (TS (l.take r))[j]? = some k → gL M (t + 3) j = k)
  | 0, _ => ⟨fun j k d hj => by simp [KS] at hj, fun j k hj => by simp [TS] at hj⟩
  | r + 1, hr => by
    obtain ⟨h1, h2⟩ := TR.rows h r (by omega)
    have hq : l[r]? = some (l[r]'(by omega)) := List.getElem?_eq_getElem (by omega)
    generalize l[r]'(by omega) = q at hq
    obtain ⟨a, e1, e2, e3, e4⟩ := h.2.2.2 r q hq
    rw [take_succ_of hq, KS_app, TS_app, KS_one, TS_one]
    refine ⟨fun j k d hj => ?_, fun j k hj => ?_⟩
    · rcases Nat.lt_or_ge j (KS (l.take r)).length with hlt | hge
      · rw [List.getElem?_append_left hlt] at hj
        exact h1 j k d hj
      · rw [List.getElem?_append_right hge] at hj
        rw [KS_len] at hj hge
        have hlt := (List.getElem?_eq_some_iff.mp hj).1
        obtain ⟨f1, f2⟩ := kf_of hj
        have := e4.2.2.2.1 _ hlt
        rw [show ksum (l.take r) + (j - ksum (l.take r)) = j by omega, f1, f2] at this
        exact this
    · rcases Nat.lt_or_ge j (TS (l.take r)).length with hlt | hge
      · rw [List.getElem?_append_left hlt] at hj
        exact h2 j k hj
      · rw [List.getElem?_append_right hge] at hj
        rw [TS_len] at hj hge
        have hlt := (List.getElem?_eq_some_iff.mp hj).1
        have f1 := tf_of hj
        have := e4.2.2.2.2 _ hlt
        rw [show tsum (l.take r) + (j - tsum (l.take r)) = j by omega, f1] at this
        exact this
