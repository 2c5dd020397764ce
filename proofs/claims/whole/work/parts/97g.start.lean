/-! ===== the start: two constructors ===== -/
/-- each reference as it is when both are made -/
def ef (k j : Nat) : Option Nat := if k = 0 ∧ j = 3 then some 2 else if k = 0 ∧ j = 4 then some 7 else zfin k j
/-- each int so: the two margins alone aren't 0 -/
def ei (k j : Nat) : Int := if j = 2 ∧ (k = 0 ∨ k = 69) then 8 else 0
/-- a memory that is being made: n cells, all as they will be, but the references P and the margins U -/
def Nv (M : Im) (n : Nat) (P : Nat → Nat → Prop) (U : Nat → Prop) : Prop := gz M = n ∧ (∀ a j, a < n → ¬ (j = 2 ∧ U a) → gI M a j = ei a j) ∧ (∀ a j, a < n → ¬ P a j → gR M a j = ef a j)
theorem ei_o {k : Nat} (h : k ≠ 0) (h' : k ≠ 69) (j : Nat) : ei k j = 0 := by unfold ei; rw [if_neg (by omega)]
theorem ei_j {j : Nat} (k : Nat) (h : j ≠ 2) : ei k j = 0 := by unfold ei; rw [if_neg (by omega)]
theorem Nv.alloc {M M' : Im} {n : Nat} {P : Nat → Nat → Prop} {U : Nat → Prop} (h : Nv M n P U) (e : M' = pnw M) (P' : Nat → Nat → Prop) (hP : ∀ b k, P b k → P' b k) (hf : ∀ k, ¬ P' n k → ef n k = none) (hi : ∀ k, ¬ (k = 2 ∧ U n) → ei n k = 0) : Nv M' (n + 1) P' U := by
  subst e
  obtain ⟨h1, h2, h3⟩ := h
  refine ⟨by rw [gz_pnw, h1], fun a j ha hj => ?_, fun a j ha hj => ?_⟩
  · rw [gI_pnw, h1]
    by_cases c : a = n
    · subst c; rw [if_pos rfl]; exact (hi j hj).symm
    · rw [if_neg c]; exact h2 a j (by omega) hj
  · rw [gR_pnw, h1]
    by_cases c : a = n
    · subst c; rw [if_pos rfl]; exact (hf j hj).symm
    · rw [if_neg c]; exact h3 a j (by omega) (fun w => hj (hP _ _ w))
theorem Nv.ref {M M' : Im} {n a j : Nat} {v : Option Nat} {P : Nat → Nat → Prop} {U : Nat → Prop} (h : Nv M n P U) (e : M' = pR M a j v) (hv : v = ef a j) (P' : Nat → Nat → Prop) (hP : ∀ b k, P b k → ¬ (b = a ∧ k = j) → P' b k) : Nv M' n P' U := by
  subst e
  obtain ⟨h1, h2, h3⟩ := h
  refine ⟨h1, fun b k hb hk => h2 b k hb hk, fun b k hb hk => ?_⟩
  rw [gR_pR]
  by_cases c : b = a ∧ k = j
  · rw [if_pos c, c.1, c.2]; exact hv
  · rw [if_neg c]; exact h3 b k hb (fun w => hk (hP _ _ w c))
theorem Nv.i0 {M M' : Im} {n a j : Nat} {P : Nat → Nat → Prop} {U : Nat → Prop} (h : Nv M n P U) (e : M' = pI M a j 0) (hv : ei a j = 0) : Nv M' n P U := by
  subst e
  obtain ⟨h1, h2, h3⟩ := h
  refine ⟨h1, fun b k hb hk => ?_, fun b k hb hk => h3 b k hb hk⟩
  rw [gI_pI]
  by_cases c : b = a ∧ k = j
  · rw [if_pos c, c.1, c.2]; exact hv.symm
  · rw [if_neg c]; exact h2 b k hb hk
theorem Nv.i8 {M M' : Im} {n a : Nat} {P : Nat → Nat → Prop} (h : Nv M n P (· = a)) (e : M' = pI M a 2 8) (ha : a = 0 ∨ a = 69) : Nv M' n P (fun _ => False) := by
  subst e
  obtain ⟨h1, h2, h3⟩ := h
  refine ⟨h1, fun b k hb _ => ?_, fun b k hb hk => h3 b k hb hk⟩
  rw [gI_pI]
  by_cases c : b = a ∧ k = 2
  · rw [if_pos c, c.1, c.2]; unfold ei; rw [if_pos ⟨rfl, ha⟩]
  · rw [if_neg c]; exact h2 b k hb (fun w => c ⟨w.2, w.1⟩)
theorem Nv.lng {M M' : Im} {n a j : Nat} {v : Int} {P : Nat → Nat → Prop} {U : Nat → Prop} (h : Nv M n P U) (e : M' = pL M a j v) : Nv M' n P U := by
  subst e; exact h
theorem ef_arr {n : Nat} (h : ∃ q, shp n = .inl q) (h0 : n ≠ 0) (h12 : n ≠ 12) (k : Nat) : ef n k = none := by
  obtain ⟨q, h⟩ := h
  unfold ef zfin
  rw [if_neg (by omega), if_neg (by omega), if_neg h12, h]
theorem ef_tier {a : Nat} (ht : a ∈ TL) (k : Nat) : ef a k = if k < 4 then some (a + 1 + k) else none := by
  obtain ⟨f0, f1, f2, f3, f4, f5, f6, f7, f8, f9, f10, f11, f12⟩ := TL_facts a ht
  unfold ef zfin
  rw [if_neg (by omega), if_neg (by omega), if_neg (by omega), f0]; rfl
theorem ef_12 (k : Nat) : ef 12 k = if k < 10 then some (19 + 5 * k) else none := by
  unfold ef zfin
  rw [if_neg (by omega), if_neg (by omega), if_pos rfl]
theorem ef_13 (k : Nat) : ef 13 k = if k = 0 then some 14 else none := by
  unfold ef zfin
  rw [if_neg (by omega), if_neg (by omega), if_neg (by omega)]; rfl
theorem ef_15 (k : Nat) : ef 15 k = if k = 0 then some 16 else none := by
  unfold ef zfin
  rw [if_neg (by omega), if_neg (by omega), if_neg (by omega)]; rfl
theorem ef_17 (k : Nat) : ef 17 k = none := by
  unfold ef zfin
  rw [if_neg (by omega), if_neg (by omega), if_neg (by omega)]; rfl
theorem Nv.weak {M : Im} {n : Nat} {P : Nat → Nat → Prop} {U U' : Nat → Prop} (h : Nv M n P U) (hU : ∀ a, U a → U' a) : Nv M n P U' := ⟨h.1, fun a j ha hj => h.2.1 a j ha (fun w => hj ⟨w.1, hU a w.2⟩), h.2.2⟩
theorem n_tier {M : Im} {a x y : Nat} {P : Nat → Nat → Prop} {U : Nat → Prop} {Q : Im → Prop} (h : Nv M (a + 1) (fun b k => (b = a ∧ k < 4) ∨ P b k) U) (ht : a ∈ TL) (hx : cap a = x) (hy : alen (a + 3) = y) (hQ : ∀ M', Nv M' (a + 5) P U → Q M') : sp_X2_init a x y M Q := by
  have z : ZMAX = 6000 := rfl
  obtain ⟨f0, f1, f2, f3, f4, f5, f6, f7, f8, f9, f10, f11, f12⟩ := TL_facts a ht
  subst hx
  subst hy
  have i69 : ∀ b, a ≤ b → b ≤ a + 4 → ∀ k, ei b k = 0 := fun b h1 h2 k => ei_o (by omega) (by omega) k
  unfold sp_X2_init
  refine ⟨⟨f0, by rw [h.1]; omega⟩, ?_⟩
  intro M13 e13 M14 e14 M15 e15
  replace h := ((h.i0 e13 (ei_j a (by decide))).i0 e14 (ei_j a (by decide))).i0 e15 (ei_j a (by decide))
  refine ⟨fun hx' => by omega, fun _ => ?_⟩
  clear e13 e14 e15
  unfold sp_X2_init_29
  rw [h.1]
  refine ⟨by omega, by omega, by rw [Int.toNat_natCast]; exact f1, by rw [Int.toNat_natCast]; omega, ?_⟩
  intro a1 M2 ea1 e2 M3 e3
  have h2 := h.alloc e2 (fun b k => (b = a ∧ k < 4) ∨ P b k) (fun _ _ w => w) (fun k _ => ef_arr ⟨_, f1⟩ (by omega) (by omega) k) (fun k _ => i69 _ (by omega) (by omega) k)
  have h3 := h2.ref e3 (by rw [ea1, ef_tier ht]; rfl) (fun b k => (b = a ∧ 1 ≤ k ∧ k < 4) ∨ P b k) (fun b k w nw => w.imp (fun w => by omega) id)
  refine ⟨fun hx' => by omega, fun _ => ?_⟩
  unfold sp_X2_init_44
  rw [h3.1]
  refine ⟨by omega, by omega, by rw [Int.toNat_natCast]; exact f2, by rw [Int.toNat_natCast]; omega, ?_⟩
  intro a4 M5 ea4 e5 M6 e6
  have h5 := h3.alloc e5 (fun b k => (b = a ∧ 1 ≤ k ∧ k < 4) ∨ P b k) (fun _ _ w => w) (fun k _ => ef_arr ⟨_, f2⟩ (by omega) (by omega) k) (fun k _ => i69 _ (by omega) (by omega) k)
  have h6 := h5.ref e6 (by rw [ea4, ef_tier ht]; rfl) (fun b k => (b = a ∧ 2 ≤ k ∧ k < 4) ∨ P b k) (fun b k w nw => w.imp (fun w => by omega) id)
  have tail : ∀ t0 : Int, 0 ≤ t0 → t0.toNat = alen (a + 3) → sp_X2_init_59 a (cap a : Nat) t0 a M6 Q := by
    intro t0 h0 et
    unfold sp_X2_init_59
    rw [h6.1, et]
    refine ⟨by omega, by omega, f3, by omega, ?_⟩
    intro a7 M8 ea7 e8 M9 e9
    have h8 := h6.alloc e8 (fun b k => (b = a ∧ 2 ≤ k ∧ k < 4) ∨ P b k) (fun _ _ w => w) (fun k _ => ef_arr ⟨_, f3⟩ (by omega) (by omega) k) (fun k _ => i69 _ (by omega) (by omega) k)
    have h9 := h8.ref e9 (by rw [ea7, ef_tier ht]; rfl) (fun b k => (b = a ∧ 3 ≤ k ∧ k < 4) ∨ P b k) (fun b k w nw => w.imp (fun w => by omega) id)
    refine ⟨fun hx' => by omega, fun _ => ?_⟩
    rw [h9.1]
    refine ⟨by omega, by omega, by rw [Int.toNat_natCast]; exact f4, by rw [Int.toNat_natCast]; omega, ?_⟩
    intro a10 M11 ea10 e11 M12 e12
    have h11 := h9.alloc e11 (fun b k => (b = a ∧ 3 ≤ k ∧ k < 4) ∨ P b k) (fun _ _ w => w) (fun k _ => ef_arr ⟨_, f4⟩ (by omega) (by omega) k) (fun k _ => i69 _ (by omega) (by omega) k)
    exact hQ M12 (h11.ref e12 (by rw [ea10, ef_tier ht]; rfl) P (fun b k w nw => w.elim (fun w => absurd (by omega) nw) id))
  exact ⟨fun hy' => tail 0 (by omega) (by omega), fun _ => tail _ (by omega) (Int.toNat_natCast _)⟩
theorem n_trace {M : Im} {a : Nat} {P : Nat → Nat → Prop} {U : Nat → Prop} {Q : Im → Prop} (h : Nv M (a + 1) (fun b k => (b = a ∧ k = 0) ∨ P b k) U) (ha : a = 13 ∨ a = 15) (hQ : ∀ M', Nv M' (a + 2) P U → Q M') : sp_X3_init a M Q := by
  have z : ZMAX = 6000 := rfl
  have s1 : shp a = .inr 3 ∧ shp (a + 1) = .inl (.int, 34) ∧ ef a 0 = some (a + 1) := by rcases ha with rfl | rfl <;> exact ⟨rfl, rfl, by decide⟩
  have i69 : ∀ b, a ≤ b → b ≤ a + 4 → ∀ k, ei b k = 0 := fun b h1 h2 k => ei_o (by omega) (by omega) k
  unfold sp_X3_init
  rw [h.1]
  refine ⟨⟨s1.1, by rw [h.1]; omega⟩, by omega, by omega, s1.2.1, by omega, ?_⟩
  intro a1 M2 ea1 e2 M3 e3 M4 e4 M5 e5 M6 e6 M7 e7 M8 e8 M9 e9
  have h2 := h.alloc e2 (fun b k => (b = a ∧ k = 0) ∨ P b k) (fun _ _ w => w) (fun k _ => ef_arr ⟨_, s1.2.1⟩ (by omega) (by omega) k) (fun k _ => i69 _ (by omega) (by omega) k)
  have h3 := h2.ref e3 (by rw [ea1, s1.2.2]) P (fun b k w nw => w.elim (fun w => absurd w nw) id)
  have i := fun j => i69 a (Nat.le_refl _) (by omega) j
  exact hQ M9 ((((((h3.i0 e4 (i 1)).i0 e5 (i 2)).i0 e6 (i 3)).i0 e7 (i 4)).i0 e8 (i 5)).i0 e9 (i 6))
theorem n_slopes {M : Im} {n : Nat} {P : Nat → Nat → Prop} {U : Nat → Prop} {Q : Im → Prop} (h : Nv M n P U) (hn : 17 < n) (hQ : ∀ M', Nv M' n P U → Q M') : sp_X1_init 17 M Q := by
  unfold sp_X1_init
  refine ⟨⟨rfl, by rw [h.1]; exact hn⟩, ?_⟩
  intro M1 e1 M2 e2 M3 e3 M4 e4 M5 e5
  exact hQ M5 (((((h.lng e1).lng e2).lng e3).lng e4).i0 e5 (ei_j 17 (by decide)))
/-- how much the tiers of layers hold -/
def rm (i : Nat) : Nat := [600, 300, 150, 75, 38, 19, 10, 5, 3, 2].getD i 0
theorem rm_le : ∀ i, i < 10 → rm (i + 1) ≤ rm i := by decide +kernel
theorem n_upper_facts : ∀ i, i < 10 → 19 + 5 * i ∈ TL ∧ cap (19 + 5 * i) = rm i ∧ alen (19 + 5 * i + 3) = 0 := by decide +kernel
theorem n_half : ∀ i, i < 10 → ((rm i : Nat) : Int) + 1 < 2147483648 ∧ (((rm i : Nat) : Int) + 1).tdiv 2 = ((rm (i + 1) : Nat) : Int) ∨ i = 9 := by decide +kernel
theorem n_last : ((((rm 9 : Nat) : Int) + 1).tdiv 2) = 1 := by decide +kernel
theorem n_loop {Q K : Im → Prop} : ∀ (d i : Nat) {M : Im} {x : Int}, i + d = 10 → (i < 10 → x = ((rm i : Nat) : Int)) → Nv M (19 + 5 * i) (fun b k => b = 12 ∧ i ≤ k ∧ k < 10) (fun _ => False) → (∀ M', Nv M' 69 (fun _ _ => False) (fun _ => False) → K M') → sp_X4_init_135 (d + 1) 0 x i M Q K := by
  intro d
  have z : ZMAX = 6000 := rfl
  have a12 : alen 12 = 10 := rfl
  induction d with
  | zero =>
    intro i M x hd hx h hK
    obtain rfl : i = 10 := by omega
    unfold sp_X4_init_135
    refine ⟨fun _ => hK M ⟨h.1, h.2.1, fun a j ha _ => h.2.2 a j ha (by omega)⟩, fun h => by omega⟩
  | succ d ih =>
    intro i M x hd hx h hK
    obtain ⟨u1, u2, u3⟩ := n_upper_facts i (by omega)
    have fu := TL_facts _ u1
    have hx := hx (by omega)
    subst hx
    unfold sp_X4_init_135
    refine ⟨fun h' => by omega, fun _ => ?_⟩
    have e5 : gR M 0 5 = some 12 := h.2.2 0 5 (by omega) (by omega)
    rintro r1 rfl
    rw [h.1, e5]
    refine ⟨by omega, fu.1, ?_⟩
    intro a2 M3 ea2 e3
    subst ea2
    have h3 := h.alloc e3 (fun b k => (b = 19 + 5 * i ∧ k < 4) ∨ (b = 12 ∧ i ≤ k ∧ k < 10)) (fun _ _ w => Or.inr w) (fun k hk => by rw [ef_tier u1, if_neg (fun w => hk (Or.inl ⟨rfl, w⟩))]) (fun k _ => ei_o (by omega) (by omega) k)
    refine n_tier (x := rm i) (y := 0) h3 u1 u2 u3 fun M4 h4 => ⟨12, rfl, ⟨⟨10, rfl⟩, by rw [h4.1]; omega⟩, by rw [a12]; omega, ?_⟩
    intro M6 e6
    have h6 := h4.ref e6 (by rw [Int.toNat_natCast]; show some (19 + 5 * i) = if i < 10 then some (19 + 5 * i) else none; rw [if_pos (by omega)]) (fun b k => b = 12 ∧ i + 1 ≤ k ∧ k < 10) (fun b k w nw => by rw [Int.toNat_natCast] at nw; omega)
    have nx : ∀ x' : Int, (i + 1 < 10 → x' = ((rm (i + 1) : Nat) : Int)) → sp_X4_init_135 (d + 1) 0 x' ((i : Int) + 1) M6 Q K := fun x' hx' => by
      rw [show (i : Int) + 1 = ((i + 1 : Nat) : Int) by omega]
      exact ih (i + 1) (by omega) hx' (by rw [show 19 + 5 * (i + 1) = 19 + 5 * i + 5 by omega]; exact h6) hK
    rcases n_half i (by omega) with ⟨p1, p2⟩ | rfl
    · have p3 : (0 : Int) ≤ ((rm i : Nat) : Int) := by omega
      have p4 : ((rm (i + 1) : Nat) : Int) ≤ ((rm i : Nat) : Int) := Int.ofNat_le.mpr (rm_le i (by omega))
      have p5 : (0 : Int) ≤ ((rm (i + 1) : Nat) : Int) := Int.natCast_nonneg _
      rw [p2]
      refine ⟨by decide, by omega, by omega, ?_⟩
      rintro i7 rfl
      refine ⟨by omega, ?_⟩
      rintro i8 rfl
      exact nx _ fun _ => rfl
    · rw [n_last]
      refine ⟨by decide, by decide, by decide, ?_⟩
      rintro i7 rfl
      refine ⟨by decide, ?_⟩
      rintro i8 rfl
      exact nx _ fun h => by omega
/-- the class's own references that are still to come, from number j on -/
def P4 (j b k : Nat) : Prop := b = 0 ∧ j ≤ k ∧ (k = 0 ∨ k = 3 ∨ k = 4 ∨ k = 5 ∨ (10 ≤ k ∧ k ≤ 13))
theorem ef0_none (j : Nat) (hj : ¬ (j = 0 ∨ j = 3 ∨ j = 4 ∨ j = 5 ∨ (10 ≤ j ∧ j ≤ 13))) : ef 0 j = none := by
  unfold ef
  rw [if_neg (by omega), if_neg (by omega)]
  show zfin4.getD j none = none
  by_cases c : j < 14
  · have : ∀ j, j < 14 → ¬ (j = 0 ∨ j = 3 ∨ j = 4 ∨ j = 5 ∨ (10 ≤ j ∧ j ≤ 13)) → zfin4.getD j none = none := by decide
    exact this j c hj
  · have e : zfin4.length = 14 := rfl
    rw [List.getD_eq_getElem?_getD, List.getElem?_eq_none (by omega)]; rfl
theorem n_X4 {M : Im} {Q : Im → Prop} (h : Nv M 1 (P4 0) (· = 0)) (hQ : ∀ M', Nv M' 69 (fun _ _ => False) (fun _ => False) → Q M') : sp_X4_init 0 M Q := by
  have z : ZMAX = 6000 := rfl
  have t2 : 2 ∈ TL := by decide
  have t7 : 7 ∈ TL := by decide
  unfold sp_X4_init
  rw [h.1]
  refine ⟨⟨rfl, by rw [h.1]; decide⟩, by decide, by omega, rfl, by decide, ?_⟩
  intro a9 M10 ea e10 M11 e11 M12 e12 M13 e13
  subst ea
  replace h := h.alloc e10 (P4 0) (fun _ _ w => w) (fun k _ => ef_arr ⟨_, rfl⟩ (by decide) (by decide) k) (fun k _ => ei_o (by decide) (by decide) k)
  replace h := h.ref e11 (by decide) (P4 1) (fun b k w nw => by unfold P4 at w ⊢; omega)
  replace h := (h.i0 e12 (ei_j 0 (by decide))).i8 e13 (Or.inl rfl)
  clear e10 e11 e12 e13
  rw [h.1]
  refine ⟨by omega, rfl, ?_⟩
  intro a14 M15 ea e15
  subst ea
  replace h := h.alloc e15 (fun b k => (b = 2 ∧ k < 4) ∨ P4 1 b k) (fun _ _ w => Or.inr w) (fun k hk => by rw [ef_tier t2, if_neg (fun w => hk (Or.inl ⟨rfl, w⟩))]) (fun k _ => ei_o (by decide) (by decide) k)
  refine n_tier (x := 600) (y := 300) h t2 (by decide +kernel) (by decide +kernel) fun M16 h => ?_
  intro M17 e17
  replace h := h.ref e17 (by decide) (P4 4) (fun b k w nw => by unfold P4 at w ⊢; omega)
  rw [h.1]
  refine ⟨by omega, rfl, ?_⟩
  intro a18 M19 ea e19
  subst ea
  replace h := h.alloc e19 (fun b k => (b = 7 ∧ k < 4) ∨ P4 4 b k) (fun _ _ w => Or.inr w) (fun k hk => by rw [ef_tier t7, if_neg (fun w => hk (Or.inl ⟨rfl, w⟩))]) (fun k _ => ei_o (by decide) (by decide) k)
  refine n_tier (x := 600) (y := 300) h t7 (by decide +kernel) (by decide +kernel) fun M20 h => ?_
  intro M21 e21
  replace h := h.ref e21 (by decide) (P4 5) (fun b k w nw => by unfold P4 at w ⊢; omega)
  rw [h.1]
  refine ⟨by decide, by omega, rfl, by decide, ?_⟩
  intro a22 M23 ea e23 M24 e24 M25 e25 M26 e26 M27 e27 M28 e28
  subst ea
  replace h := h.alloc e23 (fun b k => (b = 12 ∧ 0 ≤ k ∧ k < 10) ∨ P4 5 b k) (fun _ _ w => Or.inr w) (fun k hk => by rw [ef_12, if_neg (fun w => hk (Or.inl ⟨rfl, Nat.zero_le _, w⟩))]) (fun k _ => ei_o (by decide) (by decide) k)
  replace h := h.ref e24 (by decide) (fun b k => (b = 12 ∧ 0 ≤ k ∧ k < 10) ∨ P4 6 b k) (fun b k w nw => by unfold P4 at w ⊢; omega)
  replace h := (((h.i0 e25 (ei_j 0 (by decide))).i0 e26 (ei_j 0 (by decide))).i0 e27 (ei_j 0 (by decide))).i0 e28 (ei_j 0 (by decide))
  clear e23 e24 e25 e26 e27 e28
  rw [h.1]
  refine ⟨by omega, rfl, ?_⟩
  intro a29 M30 ea e30
  subst ea
  replace h := h.alloc e30 (fun b k => (b = 13 ∧ k = 0) ∨ ((b = 12 ∧ 0 ≤ k ∧ k < 10) ∨ P4 6 b k)) (fun _ _ w => Or.inr w) (fun k hk => by rw [ef_13, if_neg (fun w => hk (Or.inl ⟨rfl, w⟩))]) (fun k _ => ei_o (by decide) (by decide) k)
  refine n_trace h (Or.inl rfl) fun M31 h => ?_
  intro M32 e32
  replace h := h.ref e32 (by decide) (fun b k => (b = 12 ∧ 0 ≤ k ∧ k < 10) ∨ P4 11 b k) (fun b k w nw => by unfold P4 at w ⊢; omega)
  rw [h.1]
  refine ⟨by omega, rfl, ?_⟩
  intro a33 M34 ea e34
  subst ea
  replace h := h.alloc e34 (fun b k => (b = 15 ∧ k = 0) ∨ ((b = 12 ∧ 0 ≤ k ∧ k < 10) ∨ P4 11 b k)) (fun _ _ w => Or.inr w) (fun k hk => by rw [ef_15, if_neg (fun w => hk (Or.inl ⟨rfl, w⟩))]) (fun k _ => ei_o (by decide) (by decide) k)
  refine n_trace h (Or.inr rfl) fun M35 h => ?_
  intro M36 e36
  replace h := h.ref e36 (by decide) (fun b k => (b = 12 ∧ 0 ≤ k ∧ k < 10) ∨ P4 12 b k) (fun b k w nw => by unfold P4 at w ⊢; omega)
  rw [h.1]
  refine ⟨by omega, rfl, ?_⟩
  intro a37 M38 ea e38
  subst ea
  replace h := h.alloc e38 (fun b k => (b = 12 ∧ 0 ≤ k ∧ k < 10) ∨ P4 12 b k) (fun _ _ w => w) (fun k _ => ef_17 k) (fun k _ => ei_o (by decide) (by decide) k)
  refine n_slopes h (by decide) fun M39 h => ?_
  intro M40 e40
  replace h := h.ref e40 (by decide) (fun b k => (b = 12 ∧ 0 ≤ k ∧ k < 10) ∨ P4 13 b k) (fun b k w nw => by unfold P4 at w ⊢; omega)
  rw [h.1]
  refine ⟨by decide, by omega, rfl, by decide, ?_⟩
  intro a41 M42 ea e42 M43 e43
  subst ea
  replace h := h.alloc e42 (fun b k => (b = 12 ∧ 0 ≤ k ∧ k < 10) ∨ P4 13 b k) (fun _ _ w => w) (fun k _ => ef_arr ⟨_, rfl⟩ (by decide) (by decide) k) (fun k _ => ei_o (by decide) (by decide) k)
  replace h := h.ref e43 (by decide) (fun b k => b = 12 ∧ 0 ≤ k ∧ k < 10) (fun b k w nw => by unfold P4 at w; omega)
  refine ⟨10 + 1, ?_⟩
  exact n_loop (Q := Q) (K := fun M => Q M) 10 0 (x := 600) rfl (fun _ => by decide) h hQ
/-- the model's own references that are still to come, from number j on -/
def P5 (j b k : Nat) : Prop := b = 69 ∧ j ≤ k ∧ (k = 0 ∨ k = 3 ∨ (10 ≤ k ∧ k ≤ 22) ∨ (27 ≤ k ∧ k ≤ 38))
theorem ef69_none (j : Nat) (hj : ¬ (j = 0 ∨ j = 3 ∨ (10 ≤ j ∧ j ≤ 22) ∨ (27 ≤ j ∧ j ≤ 38))) : ef 69 j = none := by
  unfold ef
  rw [if_neg (by omega), if_neg (by omega)]
  show zfin5.getD j none = none
  by_cases c : j < 47
  · have : ∀ j, j < 47 → ¬ (j = 0 ∨ j = 3 ∨ (10 ≤ j ∧ j ≤ 22) ∨ (27 ≤ j ∧ j ≤ 38)) → zfin5.getD j none = none := by decide +kernel
    exact this j c hj
  · have e : zfin5.length = 47 := rfl
    rw [List.getD_eq_getElem?_getD, List.getElem?_eq_none (by omega)]; rfl
theorem Nv.arr {M M1 M2 : Im} {n a j : Nat} {U : Nat → Prop} (h : Nv M n (P5 j) U) (ea : a = n) (e1 : M1 = pnw M) (e2 : M2 = pR M1 69 j (some a)) (j' : Nat) (hj : ∀ k, j ≤ k → (k = 0 ∨ k = 3 ∨ (10 ≤ k ∧ k ≤ 22) ∨ (27 ≤ k ∧ k ≤ 38)) → k ≠ j → j' ≤ k) (hs : ∃ q, shp n = .inl q) (hn : 70 ≤ n) (hf : ef 69 j = some n) : Nv M2 (n + 1) (P5 j') U := by
  subst ea
  have h1 := h.alloc e1 (P5 j) (fun _ _ w => w) (fun k _ => ef_arr hs (by omega) (by omega) k) (fun k _ => ei_o (by omega) (by omega) k)
  exact h1.ref e2 hf.symm (P5 j') (fun b k w nw => ⟨w.1, hj k w.2.1 w.2.2 (fun e => nw ⟨w.1, e⟩), w.2.2⟩)
set_option maxHeartbeats 1000000 in
theorem n_X5 {M : Im} {Q : Im → Prop} (h : Nv M 70 (P5 0) (· = 69)) (hQ : ∀ M', Nv M' 97 (fun _ _ => False) (fun _ => False) → Q M') : sp_X5_init 69 M Q := by
  unfold sp_X5_init
  refine ⟨⟨rfl, by rw [h.1]; decide⟩, ?_⟩
  rw [h.1]
  refine ⟨by decide, by decide, rfl, by decide, ?_⟩
  intro a1 M2 ea e1 M3 e2
  replace h := h.arr ea e1 e2 3 (fun k _ _ _ => by omega) ⟨_, rfl⟩ (by decide) (by decide)
  clear ea e1 e2
  intro M4 e1
  replace h := h.i0 e1 (ei_j 69 (by decide))
  clear e1
  intro M5 e1
  replace h := h.i8 e1 (Or.inr rfl)
  clear e1
  rw [h.1]
  refine ⟨by decide, by decide, rfl, by decide, ?_⟩
  intro a6 M7 ea e1 M8 e2
  replace h := h.arr ea e1 e2 10 (fun k _ _ _ => by omega) ⟨_, rfl⟩ (by decide) (by decide)
  clear ea e1 e2
  intro M9 e1
  replace h := h.lng e1
  clear e1
  intro M10 e1
  replace h := h.lng e1
  clear e1
  intro M11 e1
  replace h := h.lng e1
  clear e1
  intro M12 e1
  replace h := h.lng e1
  clear e1
  intro M13 e1
  replace h := h.i0 e1 (ei_j 69 (by decide))
  clear e1
  intro M14 e1
  replace h := h.i0 e1 (ei_j 69 (by decide))
  clear e1
  rw [h.1]
  refine ⟨by decide, by decide, rfl, by decide, ?_⟩
  intro a15 M16 ea e1 M17 e2
  replace h := h.arr ea e1 e2 11 (fun k _ _ _ => by omega) ⟨_, rfl⟩ (by decide) (by decide)
  clear ea e1 e2
  rw [h.1]
  refine ⟨by decide, by decide, rfl, by decide, ?_⟩
  intro a18 M19 ea e1 M20 e2
  replace h := h.arr ea e1 e2 12 (fun k _ _ _ => by omega) ⟨_, rfl⟩ (by decide) (by decide)
  clear ea e1 e2
  rw [h.1]
  refine ⟨by decide, by decide, rfl, by decide, ?_⟩
  intro a21 M22 ea e1 M23 e2
  replace h := h.arr ea e1 e2 13 (fun k _ _ _ => by omega) ⟨_, rfl⟩ (by decide) (by decide)
  clear ea e1 e2
  rw [h.1]
  refine ⟨by decide, by decide, rfl, by decide, ?_⟩
  intro a24 M25 ea e1 M26 e2
  replace h := h.arr ea e1 e2 14 (fun k _ _ _ => by omega) ⟨_, rfl⟩ (by decide) (by decide)
  clear ea e1 e2
  rw [h.1]
  refine ⟨by decide, by decide, rfl, by decide, ?_⟩
  intro a27 M28 ea e1 M29 e2
  replace h := h.arr ea e1 e2 15 (fun k _ _ _ => by omega) ⟨_, rfl⟩ (by decide) (by decide)
  clear ea e1 e2
  rw [h.1]
  refine ⟨by decide, by decide, rfl, by decide, ?_⟩
  intro a30 M31 ea e1 M32 e2
  replace h := h.arr ea e1 e2 16 (fun k _ _ _ => by omega) ⟨_, rfl⟩ (by decide) (by decide)
  clear ea e1 e2
  rw [h.1]
  refine ⟨by decide, by decide, rfl, by decide, ?_⟩
  intro a33 M34 ea e1 M35 e2
  replace h := h.arr ea e1 e2 17 (fun k _ _ _ => by omega) ⟨_, rfl⟩ (by decide) (by decide)
  clear ea e1 e2
  rw [h.1]
  refine ⟨by decide, by decide, rfl, by decide, ?_⟩
  intro a36 M37 ea e1 M38 e2
  replace h := h.arr ea e1 e2 18 (fun k _ _ _ => by omega) ⟨_, rfl⟩ (by decide) (by decide)
  clear ea e1 e2
  rw [h.1]
  refine ⟨by decide, by decide, rfl, by decide, ?_⟩
  intro a39 M40 ea e1 M41 e2
  replace h := h.arr ea e1 e2 19 (fun k _ _ _ => by omega) ⟨_, rfl⟩ (by decide) (by decide)
  clear ea e1 e2
  rw [h.1]
  refine ⟨by decide, by decide, rfl, by decide, ?_⟩
  intro a42 M43 ea e1 M44 e2
  replace h := h.arr ea e1 e2 20 (fun k _ _ _ => by omega) ⟨_, rfl⟩ (by decide) (by decide)
  clear ea e1 e2
  rw [h.1]
  refine ⟨by decide, by decide, rfl, by decide, ?_⟩
  intro a45 M46 ea e1 M47 e2
  replace h := h.arr ea e1 e2 21 (fun k _ _ _ => by omega) ⟨_, rfl⟩ (by decide) (by decide)
  clear ea e1 e2
  rw [h.1]
  refine ⟨by decide, by decide, rfl, by decide, ?_⟩
  intro a48 M49 ea e1 M50 e2
  replace h := h.arr ea e1 e2 22 (fun k _ _ _ => by omega) ⟨_, rfl⟩ (by decide) (by decide)
  clear ea e1 e2
  rw [h.1]
  refine ⟨by decide, by decide, rfl, by decide, ?_⟩
  intro a51 M52 ea e1 M53 e2
  replace h := h.arr ea e1 e2 27 (fun k _ _ _ => by omega) ⟨_, rfl⟩ (by decide) (by decide)
  clear ea e1 e2
  intro M54 e1
  replace h := h.i0 e1 (ei_j 69 (by decide))
  clear e1
  intro M55 e1
  replace h := h.i0 e1 (ei_j 69 (by decide))
  clear e1
  intro M56 e1
  replace h := h.i0 e1 (ei_j 69 (by decide))
  clear e1
  intro M57 e1
  replace h := h.i0 e1 (ei_j 69 (by decide))
  clear e1
  rw [h.1]
  refine ⟨by decide, by decide, rfl, by decide, ?_⟩
  intro a58 M59 ea e1 M60 e2
  replace h := h.arr ea e1 e2 28 (fun k _ _ _ => by omega) ⟨_, rfl⟩ (by decide) (by decide)
  clear ea e1 e2
  rw [h.1]
  refine ⟨by decide, by decide, rfl, by decide, ?_⟩
  intro a61 M62 ea e1 M63 e2
  replace h := h.arr ea e1 e2 29 (fun k _ _ _ => by omega) ⟨_, rfl⟩ (by decide) (by decide)
  clear ea e1 e2
  rw [h.1]
  refine ⟨by decide, by decide, rfl, by decide, ?_⟩
  intro a64 M65 ea e1 M66 e2
  replace h := h.arr ea e1 e2 30 (fun k _ _ _ => by omega) ⟨_, rfl⟩ (by decide) (by decide)
  clear ea e1 e2
  rw [h.1]
  refine ⟨by decide, by decide, rfl, by decide, ?_⟩
  intro a67 M68 ea e1 M69 e2
  replace h := h.arr ea e1 e2 31 (fun k _ _ _ => by omega) ⟨_, rfl⟩ (by decide) (by decide)
  clear ea e1 e2
  rw [h.1]
  refine ⟨by decide, by decide, rfl, by decide, ?_⟩
  intro a70 M71 ea e1 M72 e2
  replace h := h.arr ea e1 e2 32 (fun k _ _ _ => by omega) ⟨_, rfl⟩ (by decide) (by decide)
  clear ea e1 e2
  rw [h.1]
  refine ⟨by decide, by decide, rfl, by decide, ?_⟩
  intro a73 M74 ea e1 M75 e2
  replace h := h.arr ea e1 e2 33 (fun k _ _ _ => by omega) ⟨_, rfl⟩ (by decide) (by decide)
  clear ea e1 e2
  rw [h.1]
  refine ⟨by decide, by decide, rfl, by decide, ?_⟩
  intro a76 M77 ea e1 M78 e2
  replace h := h.arr ea e1 e2 34 (fun k _ _ _ => by omega) ⟨_, rfl⟩ (by decide) (by decide)
  clear ea e1 e2
  rw [h.1]
  refine ⟨by decide, by decide, rfl, by decide, ?_⟩
  intro a79 M80 ea e1 M81 e2
  replace h := h.arr ea e1 e2 35 (fun k _ _ _ => by omega) ⟨_, rfl⟩ (by decide) (by decide)
  clear ea e1 e2
  rw [h.1]
  refine ⟨by decide, by decide, rfl, by decide, ?_⟩
  intro a82 M83 ea e1 M84 e2
  replace h := h.arr ea e1 e2 36 (fun k _ _ _ => by omega) ⟨_, rfl⟩ (by decide) (by decide)
  clear ea e1 e2
  rw [h.1]
  refine ⟨by decide, by decide, rfl, by decide, ?_⟩
  intro a85 M86 ea e1 M87 e2
  replace h := h.arr ea e1 e2 37 (fun k _ _ _ => by omega) ⟨_, rfl⟩ (by decide) (by decide)
  clear ea e1 e2
  rw [h.1]
  refine ⟨by decide, by decide, rfl, by decide, ?_⟩
  intro a88 M89 ea e1 M90 e2
  replace h := h.arr ea e1 e2 38 (fun k _ _ _ => by omega) ⟨_, rfl⟩ (by decide) (by decide)
  clear ea e1 e2
  rw [h.1]
  refine ⟨by decide, by decide, rfl, by decide, ?_⟩
  intro a91 M92 ea e1 M93 e2
  replace h := h.arr ea e1 e2 39 (fun k _ _ _ => by omega) ⟨_, rfl⟩ (by decide) (by decide)
  clear ea e1 e2
  intro M94 e1
  replace h := h.i0 e1 (ei_j 69 (by decide))
  clear e1
  intro M95 e1
  replace h := h.i0 e1 (ei_j 69 (by decide))
  clear e1
  intro M96 e1
  replace h := h.i0 e1 (ei_j 69 (by decide))
  clear e1
  intro M97 e1
  replace h := h.i0 e1 (ei_j 69 (by decide))
  clear e1
  intro M98 e1
  replace h := h.i0 e1 (ei_j 69 (by decide))
  clear e1
  intro M99 e1
  replace h := h.i0 e1 (ei_j 69 (by decide))
  clear e1
  intro M100 e1
  replace h := h.i0 e1 (ei_j 69 (by decide))
  clear e1
  intro M101 e1
  replace h := h.i0 e1 (ei_j 69 (by decide))
  clear e1
  exact hQ M101 ⟨h.1, h.2.1, fun a j ha _ => h.2.2 a j ha (fun w => by unfold P5 at w; omega)⟩
/-- what both constructors leave is good -/
theorem good0 {M : Im} (h : Nv M 97 (fun _ _ => False) (fun _ => False)) : Good 0 M := by
  obtain ⟨h1, h2, h3⟩ := h
  have I : ∀ a j, a < 97 → gI M a j = ei a j := fun a j ha => h2 a j ha (fun w => w.2)
  have R : ∀ a j, a < 97 → gR M a j = ef a j := fun a j ha => h3 a j ha (fun w => w)
  have k : K0 ≤ gz M := by rw [h1]; decide
  have hT : TR M 2 [] := ⟨I 2 4 (by decide), I 2 5 (by decide), I 2 6 (by decide), fun p q h => by simp at h⟩
  refine ⟨[], 8, [], [], 0, 0, [], 0, ⟨k, ⟨fun _ => 0, fun t ht => ⟨Nat.zero_le _, fun p hp => absurd hp (Nat.not_lt_zero _), fun p _ _ => ?_⟩, fun t t' p p' a _ _ hp => absurd hp (Nat.not_lt_zero _), ?_⟩, ⟨2, 7, ⟨Or.inl ⟨rfl, rfl⟩, R 0 3 (by decide), R 0 4 (by decide)⟩, hT⟩, ⟨I 0 6 (by decide), by decide, fun i y hy => by simp at hy⟩, ⟨I 0 1 (by decide), I 0 2 (by decide), I 0 7 (by decide), I 0 8 (by decide), I 0 9 (by decide)⟩, fun i v hv => by simp at hv, ⟨I 13 1 (by decide), fun j v hv => by simp at hv⟩, I 13 2 (by decide)⟩, ⟨⟨I 69 1 (by decide), I 69 2 (by decide), I 69 9 (by decide), ?_, I 69 24 (by decide), I 69 25 (by decide), I 69 40 (by decide), I 69 42 (by decide), ?_⟩, fun i v hv => by simp at hv, fun p q hq => by simp at hq, fun i y hy => ?_, fun j v hv => by simp at hv⟩, ?_⟩
  · obtain ⟨f0, f1, f2, f3, f4, f5, f6, f7, f8, f9, f10, f11, f12⟩ := TL_facts t ht
    rw [R _ _ (by omega)]
    exact ef_arr ⟨_, f4⟩ (by omega) (by omega) p
  · rw [h1]; decide
  · rw [if_pos rfl]; exact I 69 23 (by decide)
  · rw [if_pos rfl]; exact I 69 46 (by decide)
  · have : i = 0 := by
      have := (List.getElem?_eq_some_iff.mp hy).1
      simp at this; exact this
    subst this
    have ey : y = [] := by simpa using hy.symm
    subst ey
    exact ⟨I 72 0 (by decide), I 73 0 (by decide)⟩
  · exact ⟨by decide, ⟨by decide, List.Pairwise.nil, fun x hx => by simp at hx⟩, by decide, WL_nil, fun q hq => by simp at hq, by simp [GT], by simp [ksum_nil, tsum_nil], ⟨8, by decide, (lys_nil 8 10).symm⟩, by decide, by decide, by decide, by decide⟩
