/-! ===== the model's rows of pieces ===== -/
def MA (M : Im) (A : List Pc) : Prop := ∀ p q, A[p]? = some q → MP M p (ksum (A.take p)) q
def AgP (b : Nat) : Prop := b = 69 ∨ (74 ≤ b ∧ b ≤ 82) ∨ b = 84
theorem MP.frame {M M' : Im} {g fr : Nat} {q : Pc} (h : MP M g fr q) (h1 : ∀ b, 74 ≤ b → b ≤ 78 → gI M' b g = gI M b g) (h2 : ∀ b, 79 ≤ b → b ≤ 81 → gL M' b g = gL M b g) (h3 : ∀ i, i < (pks q).length → gL M' 82 (fr + i) = gL M 82 (fr + i) ∧ gI M' 84 (fr + i) = gI M 84 (fr + i)) (h4 : ∀ i, i < (plt q).length → gL M' 83 (16 * g + i) = gL M 83 (16 * g + i)) : MP M' g fr q := by
  obtain ⟨⟨a0, a1, a2, a3, a4⟩, ⟨a6, a7, a8⟩, b1, b2⟩ := h
  refine ⟨⟨?_, ?_, ?_, ?_, ?_⟩, ⟨?_, ?_, ?_⟩, fun i hi => ?_, fun i hi => ?_⟩
  · rw [h1 74 (by omega) (by omega)]; exact a0
  · rw [h1 75 (by omega) (by omega)]; exact a1
  · rw [h1 76 (by omega) (by omega)]; exact a2
  · rw [h1 77 (by omega) (by omega)]; exact a3
  · rw [h1 78 (by omega) (by omega)]; exact a4
  · rw [h2 79 (by omega) (by omega)]; exact a6
  · rw [h2 80 (by omega) (by omega)]; exact a7
  · rw [h2 81 (by omega) (by omega)]; exact a8
  · rw [(h3 i hi).1, (h3 i hi).2]; exact b1 i hi
  · rw [h4 i hi]; exact b2 i hi
theorem MA.ag {S : Nat → Prop} {M M' : Im} {A : List Pc} (h : MA M A) (g : Ag S M M') (hS : ∀ b, 74 ≤ b → b ≤ 84 → ¬ S b) : MA M' A := fun p q hq =>
  (h p q hq).frame (fun b h1 h2 => g.I (hS b h1 (by omega)) p) (fun b h1 h2 => g.L (hS b (by omega) (by omega)) p) (fun i _ => ⟨g.L (hS 82 (by omega) (by omega)) _, g.I (hS 84 (by omega) (by omega)) _⟩) (fun i _ => g.L (hS 83 (by omega) (by omega)) _)
theorem MA.push {M M' : Im} {A : List Pc} {q : Pc} {n : Nat} (h : MA M A) (g : PW A.length (ksum A) n M M') (hq : MP M' A.length (ksum A) q) : MA M' (A ++ [q]) := by
  intro p r hr
  rcases Nat.lt_or_ge p A.length with hp | hp
  · rw [List.getElem?_append_left hp] at hr
    rw [List.take_append_of_le_length (by omega)]
    have kin := ksum_in hr
    exact (h p r hr).frame (fun b h1 h2 => (g.2.2.1 b p h1 (by omega) (by omega)).1) (fun b h1 h2 => (g.2.2.1 b p (by omega) h2 (by omega)).2) (fun i hi => g.2.2.2 _ (Or.inl (by omega))) (fun i _ => g.1.L (by omega) _)
  · have hp' : p = A.length := by
      have := (List.getElem?_eq_some_iff.mp hr).1
      simp at this; omega
    subst hp'
    rw [List.getElem?_append_right (Nat.le_refl _), Nat.sub_self] at hr
    cases hr
    rw [List.take_left]
    exact hq
def toK (ki : Int) (q : Pc) : Pc := if ki = 2 then rndK q else q
theorem toK_rows (ki : Int) (q : Pc) : pks (toK ki q) = pks q ∧ plt (toK ki q) = plt q := by
  unfold toK; split
  · exact rndK_rows q
  · exact ⟨rfl, rfl⟩
theorem ksum_map_toK (ki : Int) (l : List Pc) : ksum (l.map (toK ki)) = ksum l := by
  induction l with
  | nil => rfl
  | cons q l ih => rw [List.map_cons, ksum_cons, ksum_cons, ih, (toK_rows ki q).1]
theorem d_make_27 {p at_ : Nat} {ki m E : Int} {Q : Int → Im → Prop} {K74 : Int → Im → Prop} (hm : 0 ≤ m ∧ m ≤ 40) (hki : ki = 1 ∨ ki = 2) :
    ∀ (d n a c : Nat) {M : Im} {f : Nat → Int} {A : List Pc}, n ≤ d → n ≤ 600 → a + n ≤ 5000 → p + c + n ≤ 9000 → at_ + a + n ≤ 12000 → K0 ≤ gz M → gI M 69 2 = E → okF f n → (∀ i, i < n → gL M 71 (a + i) = f i) → MA M A → A.length = p + c → ksum A = at_ + a →
    (∀ M', Ag AgP M M' → keep69 M M' → MA M' (A ++ (mkGo m E d f n).map (toK ki)) → K74 ((c : Int) + (mkGo m E d f n).length) M') →
    sp_X5_make_27 (d + 1) 69 ((a + n : Nat) : Int) p at_ ki m a c M Q K74
  | 0, n, a, c, M, f, A, hd, hn, ha, hp, hat, hk, hE, hf, hfi, hA, hl, hs, hQ => by
    obtain rfl : n = 0 := by omega
    unfold sp_X5_make_27
    refine ⟨fun _ => ?_, fun h => by omega⟩
    have := hQ M Ag.refl keep69.refl (by unfold mkGo; simpa using hA)
    unfold mkGo at this
    simpa using this
  | d + 1, n, a, c, M, f, A, hd, hn, ha, hp, hat, hk, hE, hf, hfi, hA, hl, hs, hQ => by
    unfold sp_X5_make_27
    refine ⟨fun h => ?_, fun h => ?_⟩
    · obtain rfl : n = 0 := by omega
      have := hQ M Ag.refl keep69.refl (by unfold mkGo; rw [if_pos rfl]; simpa using hA)
      unfold mkGo at this
      simpa using this
    have hn0 : n ≠ 0 := by omega
    have hsp := spanLen_pos (m := m) (f := f) (n := n) (by omega)
    unfold mkGo at hQ
    rw [if_neg hn0] at hQ
    rw [show ((a + n : Nat) : Int) = (a : Int) + (n : Nat) by omega]
    refine d_spanEnd hk (by omega) hn ha hm hf hfi fun M1 g1 c1 => ?_
    generalize spanLen m f n = s at *
    refine ⟨by omega, by omega, ?_⟩
    rw [show (a : Int) + (s : Nat) = ((a + s : Nat) : Int) by omega, show (p : Int) + (c : Nat) = ((p + c : Nat) : Int) by omega, show (at_ : Int) + (a : Nat) = ((at_ + a : Nat) : Int) by omega]
    have G1 : Ag AgP M M1 := g1.mono fun b hb => Or.inl hb
    have A1 : MA M1 A := hA.ag g1 (fun b h1 h2 => by omega)
    refine d_lean (E := E) (f := f) (g1.k0 hk) (by omega) (by omega) (by omega) hsp.1 (by omega) hm (by rw [c1 2 (by omega)]; exact hE) (hf.le hsp.2) (fun j hj => by rw [g1.L (by omega)]; exact hfi j (by omega)) hki fun M3 g3 hP3 => ?_
    refine ⟨by omega, ?_⟩
    rintro i4 rfl
    have hlq : (pks (pck ki m E f s)).length = s := by
      have : pks (pck ki m E f s) = pks (pcOf m E f s) := (toK_rows ki (pcOf m E f s)).1
      rw [this]; exact len_pcOf m E f s
    have A3 : MA M3 (A ++ [pck ki m E f s]) := by
      rw [← hl, ← hs] at g3 hP3
      exact A1.push g3 hP3
    have G3 : Ag AgP M M3 := G1.trans g3.1
    have C3 : keep69 M M3 := c1.trans g3.2.1
    rw [show (c : Int) + 1 = ((c + 1 : Nat) : Int) by omega, show (a : Int) + (n : Nat) = ((a + s + (n - s) : Nat) : Int) by omega]
    refine d_make_27 (E := E) hm hki d (n - s) (a + s) (c + 1) (f := fun i => f (s + i)) (by omega) (by omega) (by omega) (by omega) (by omega) (G3.k0 hk) (by rw [C3 2 (by omega)]; exact hE) hf.shift (fun i hi => by rw [G3.L (by unfold AgP; omega), Nat.add_assoc]; exact hfi (s + i) (by omega)) A3 (by simp; omega) (by rw [ksum_app, ksum_one, hlq]; omega) fun M' g' c' A' => ?_
    have h1 := hQ M' (G3.trans g') (C3.trans c') (by rw [List.append_assoc, List.singleton_append] at A'; exact A')
    rw [List.length_cons] at h1
    rw [show ((c + 1 : Nat) : Int) + ((mkGo m E d (fun i => f (s + i)) (n - s)).length : Nat) = (c : Int) + (((mkGo m E d (fun i => f (s + i)) (n - s)).length + 1 : Nat) : Int) by omega]
    exact h1
theorem mkk_toK (ki E : Int) (f : Nat → Int) (n : Nat) : mkk ki E f n = (mk (if ki = 2 then E - 1 else E) E f n).map (toK ki) := by
  unfold mkk
  by_cases h : ki = 2
  · rw [if_pos h, if_pos h]
    congr 1
    funext q
    unfold toK; rw [if_pos h]
  · rw [if_neg h, if_neg h]
    have : toK ki = id := by funext q; unfold toK; rw [if_neg h]; rfl
    rw [this, List.map_id]
theorem d_make {M : Im} {n : Nat} {ki E : Int} {f : Nat → Int} {A : List Pc} {Q : Int → Im → Prop} (hk : K0 ≤ gz M) (hE : gI M 69 2 = E) (hE4 : 0 ≤ E ∧ E ≤ 40) (hki : ki = 1 ∨ (ki = 2 ∧ 1 ≤ E)) (hn : n ≤ 600) (hA : MA M A) (hl : A.length + n ≤ 9000) (hs : ksum A + n ≤ 12000) (hf : okF f n) (hfi : ∀ i, i < n → gL M 71 i = f i)
    (hQ : ∀ M', Ag AgP M M' → keep69 M M' → MA M' (A ++ mkk ki E f n) → Q (mkk ki E f n).length M') : sp_X5_make 69 n A.length (ksum A) ki M Q := by
  have e := mkk_toK ki E f n
  have el : (mkk ki E f n).length = (mk (if ki = 2 then E - 1 else E) E f n).length := by rw [e, List.length_map]
  rw [e] at hQ
  unfold sp_X5_make
  have step : ∀ m, m = (if ki = 2 then E - 1 else E) → 0 ≤ m ∧ m ≤ 40 → sp_X5_make_19 69 n A.length (ksum A) ki m M Q := fun m hm hmb => by
    subst hm
    unfold sp_X5_make_19
    refine ⟨n + 1, ?_⟩
    have h := d_make_27 (p := A.length) (at_ := ksum A) (Q := Q) (K74 := fun x7 M => Q x7 M) hmb (hki.elim Or.inl fun w => Or.inr w.1) n n 0 0 (M := M) (E := E) (f := f) (A := A) (Nat.le_refl _) hn (by omega) (by omega) (by omega) hk hE hf (fun i hi => by rw [Nat.zero_add]; exact hfi i hi) hA rfl rfl (fun M' g c A' => by
      have := hQ M' g c A'
      rw [List.length_map] at this
      show Q (((0 : Nat) : Int) + ((mkGo _ E n f n).length : Nat)) M'
      rw [show ((0 : Nat) : Int) + ((mkGo (if ki = 2 then E - 1 else E) E n f n).length : Nat) = ((mk (if ki = 2 then E - 1 else E) E f n).length : Nat) by unfold mk; omega]
      exact this)
    rw [Nat.zero_add] at h
    exact h
  refine ⟨iO_c hk (by decide) rfl, fun h => ?_, fun h => ?_⟩
  · rw [hE]; exact step E (by rw [if_neg h]) hE4
  · rw [hE]; exact ⟨by omega, step (E - 1) (by rw [if_pos h]) (by rcases hki with w | w <;> omega)⟩
