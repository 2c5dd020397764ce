/-! ===== a made line is never too far below: what a find rests on ===== -/
/-- what was gathered of the pairs P: the least UPPER is one of a pair; none is below it, no LOWER is above the greatest -/
def GInv (m : Int) (f : Nat → Int) (n : Nat) (P : Nat → Nat → Prop) (s : St) : Prop :=
  (s = s0 ∧ ∀ i j, ¬ P i j) ∨ (0 < s.2.1 ∧ 0 < s.2.2.2.2 ∧ (∃ p j : Nat, p < j ∧ j < n ∧ s.2.2.1 = (p : Int) ∧ s.1 = (j : Int) - p + 2 * m ∧ s.2.1 = f j - f p) ∧
    ∀ i j, P i j → i < j ∧ j < n ∧ s.1 * (f j - f i) ≤ ((j : Int) - i + 2 * m) * s.2.1 ∧ ((j : Int) - i - 2 * m) * s.2.2.2.2 ≤ s.2.2.2.1 * (f j - f i))
theorem frac_up {A R U b' b a : Int} (hR : 0 < R) (hb : 0 < b) (hb' : 0 < b') (h1 : A * R ≤ U * b') (h2 : U * b ≤ a * R) : A * b ≤ a * b' := by
  have e1 : A * R * b ≤ U * b' * b := Int.mul_le_mul_of_nonneg_right h1 (Int.le_of_lt hb)
  have e2 : U * b * b' ≤ a * R * b' := Int.mul_le_mul_of_nonneg_right h2 (Int.le_of_lt hb')
  have e3 : U * b' * b = U * b * b' := by rw [Int.mul_assoc, Int.mul_comm b' b, ← Int.mul_assoc]
  have e4 : A * R * b = R * (A * b) := by rw [Int.mul_comm A R, Int.mul_assoc]
  have e5 : a * R * b' = R * (a * b') := by rw [Int.mul_comm a R, Int.mul_assoc]
  refine Int.le_of_mul_le_mul_left (a := R) ?_ hR
  rw [← e4, ← e5]
  omega
theorem GInv.step {m : Int} {f : Nat → Int} {n i j : Nat} {P : Nat → Nat → Prop} {s : St} (h : GInv m f n P s) (hf : okF f n) (hij : i < j) (hj : j < n) : GInv m f n (fun a b => P a b ∨ (a = i ∧ b = j)) (pr m f i j s) := by
  have hlt := hf.2 i j hij hj
  rcases h with ⟨rfl, hP⟩ | ⟨hR, hV, hex, hall⟩
  · rw [pr_s0 hlt]
    refine Or.inr ⟨by dsimp only; omega, by dsimp only; omega, ⟨i, j, hij, hj, rfl, rfl, rfl⟩, fun a b hab => ?_⟩
    rcases hab with hab | ⟨rfl, rfl⟩
    · exact absurd hab (hP a b)
    · exact ⟨hij, hj, Int.le_refl _, Int.le_refl _⟩
  · refine Or.inr ?_
    unfold pr
    dsimp only
    have up : 0 < (if ((j : Int) - i + 2 * m) * s.2.1 < s.1 * (f j - f i) then f j - f i else s.2.1) ∧
        (∃ p j' : Nat, p < j' ∧ j' < n ∧ (if ((j : Int) - i + 2 * m) * s.2.1 < s.1 * (f j - f i) then (i : Int) else s.2.2.1) = (p : Int) ∧ (if ((j : Int) - i + 2 * m) * s.2.1 < s.1 * (f j - f i) then (j : Int) - i + 2 * m else s.1) = (j' : Int) - p + 2 * m ∧ (if ((j : Int) - i + 2 * m) * s.2.1 < s.1 * (f j - f i) then f j - f i else s.2.1) = f j' - f p) ∧
        (∀ a b, P a b ∨ (a = i ∧ b = j) → (if ((j : Int) - i + 2 * m) * s.2.1 < s.1 * (f j - f i) then (j : Int) - i + 2 * m else s.1) * (f b - f a) ≤ ((b : Int) - a + 2 * m) * (if ((j : Int) - i + 2 * m) * s.2.1 < s.1 * (f j - f i) then f j - f i else s.2.1)) := by
      by_cases c : ((j : Int) - i + 2 * m) * s.2.1 < s.1 * (f j - f i)
      · simp only [if_pos c]
        refine ⟨by omega, ⟨i, j, hij, hj, rfl, rfl, rfl⟩, fun a b hab => ?_⟩
        rcases hab with hab | ⟨rfl, rfl⟩
        · obtain ⟨h1, h2, h3, -⟩ := hall a b hab
          have := hf.2 a b h1 h2
          exact frac_up hR (by omega) (by omega) (Int.le_of_lt c) h3
        · exact Int.le_refl _
      · simp only [if_neg c]
        refine ⟨hR, hex, fun a b hab => ?_⟩
        rcases hab with hab | ⟨rfl, rfl⟩
        · exact (hall a b hab).2.2.1
        · omega
    have lo : 0 < (if s.2.2.2.1 * (f j - f i) < ((j : Int) - i - 2 * m) * s.2.2.2.2 then f j - f i else s.2.2.2.2) ∧
        (∀ a b, P a b ∨ (a = i ∧ b = j) → ((b : Int) - a - 2 * m) * (if s.2.2.2.1 * (f j - f i) < ((j : Int) - i - 2 * m) * s.2.2.2.2 then f j - f i else s.2.2.2.2) ≤ (if s.2.2.2.1 * (f j - f i) < ((j : Int) - i - 2 * m) * s.2.2.2.2 then (j : Int) - i - 2 * m else s.2.2.2.1) * (f b - f a)) := by
      by_cases c : s.2.2.2.1 * (f j - f i) < ((j : Int) - i - 2 * m) * s.2.2.2.2
      · simp only [if_pos c]
        refine ⟨by omega, fun a b hab => ?_⟩
        rcases hab with hab | ⟨rfl, rfl⟩
        · obtain ⟨h1, h2, -, h4⟩ := hall a b hab
          have := hf.2 a b h1 h2
          have q := frac_up (A := (b : Int) - a - 2 * m) (R := s.2.2.2.2) (U := s.2.2.2.1) (b' := f b - f a) (b := f j - f i) (a := (j : Int) - i - 2 * m) hV (by omega) (by omega) h4 (Int.le_of_lt c)
          exact q
        · exact Int.le_refl _
      · simp only [if_neg c]
        refine ⟨hV, fun a b hab => ?_⟩
        rcases hab with hab | ⟨rfl, rfl⟩
        · exact (hall a b hab).2.2.2
        · omega
    refine ⟨up.1, lo.1, up.2.1, fun a b hab => ⟨?_, ?_, up.2.2 a b hab, lo.2 a b hab⟩⟩
    · rcases hab with hab | ⟨rfl, rfl⟩
      · exact (hall a b hab).1
      · exact hij
    · rcases hab with hab | ⟨rfl, rfl⟩
      · exact (hall a b hab).2.1
      · exact hj
theorem GInv.imp {m : Int} {f : Nat → Int} {n : Nat} {P P' : Nat → Nat → Prop} {s : St} (h : GInv m f n P s) (hp : ∀ a b, P' a b ↔ P a b) : GInv m f n P' s := by
  rcases h with ⟨h1, h2⟩ | ⟨h1, h2, h3, h4⟩
  · exact Or.inl ⟨h1, fun i j w => h2 i j ((hp i j).mp w)⟩
  · exact Or.inr ⟨h1, h2, h3, fun i j w => h4 i j ((hp i j).mp w)⟩
theorem GInv_rowF {m : Int} {f : Nat → Int} {n j : Nat} {P : Nat → Nat → Prop} {s : St} (h : GInv m f n P s) (hf : okF f n) (hj : j < n) : ∀ i, i ≤ j → GInv m f n (fun a b => P a b ∨ (a < i ∧ b = j)) (rowF m f j i s)
  | 0, _ => h.imp fun a b => ⟨fun w => w.elim id (fun x => absurd x.1 (Nat.not_lt_zero _)), Or.inl⟩
  | i + 1, hi => ((GInv_rowF h hf hj i (by omega)).step hf (show i < j by omega) hj).imp fun a b =>
    ⟨fun w => w.elim (fun x => Or.inl (Or.inl x)) (fun x => (Nat.lt_or_ge a i).elim (fun y => Or.inl (Or.inr ⟨y, x.2⟩)) (fun y => Or.inr ⟨by omega, x.2⟩)), fun w => w.elim (fun x => x.elim Or.inl (fun y => Or.inr ⟨by omega, y.2⟩)) (fun x => Or.inr ⟨by omega, x.2⟩)⟩
theorem GInv_allF {m : Int} {f : Nat → Int} {n : Nat} (hf : okF f n) : ∀ j, j < n → GInv m f n (fun a b => a < b ∧ b ≤ j) (allF m f j)
  | 0, _ => Or.inl ⟨rfl, fun i j h => by omega⟩
  | j + 1, hj => (GInv_rowF (GInv_allF hf j (by omega)) hf hj (j + 1) (Nat.le_refl _)).imp fun a b => by omega
/-- the line of a span, at each key not more than m below its place -/
theorem line_ge {m : Int} {f : Nat → Int} {n : Nat} (hf : okF f n) (hn : 2 ≤ n) (hm : 0 ≤ m) (hfit : fitS (allF m f (n - 1))) {i : Nat} (hi : i < n) :
    ∃ p : Nat, (allF m f (n - 1)).2.2.1 = (p : Int) ∧ p < n ∧ 0 < (allF m f (n - 1)).1 ∧ 0 < (allF m f (n - 1)).2.1 ∧ ((i : Int) - p) * (allF m f (n - 1)).2.1 ≤ (allF m f (n - 1)).1 * (f i - f p) := by
  have h := GInv_allF (m := m) hf (n - 1) (by omega)
  generalize allF m f (n - 1) = s at *
  rcases h with ⟨-, h⟩ | ⟨hR, hV, ⟨p, j, hpj, hj, h1, h2, h3⟩, hall⟩
  · exact absurd ⟨by omega, by omega⟩ (h 0 1)
  refine ⟨p, h1, by omega, by omega, hR, ?_⟩
  unfold fitS at hfit
  have e1 : s.1 * (f i - f p) = s.1 * f i - s.1 * f p := Int.mul_sub ..
  have e2 : s.1 * s.2.1 = ((j : Int) - p + 2 * m) * s.2.1 := by rw [h2]
  have e3 : s.1 * s.2.1 = s.1 * f j - s.1 * f p := by rw [h3, Int.mul_sub]
  have e4 : ((j : Int) - p + 2 * m) * s.2.1 = (j : Int) * s.2.1 - (p : Int) * s.2.1 + 2 * m * s.2.1 := by rw [Int.add_mul, Int.sub_mul]
  have e5 : ((i : Int) - p) * s.2.1 = (i : Int) * s.2.1 - (p : Int) * s.2.1 := Int.sub_mul ..
  have e6 : 0 ≤ 2 * m * s.2.1 := Int.mul_nonneg (by omega) (by omega)
  rcases Nat.lt_trichotomy i j with hij | rfl | hij
  · obtain ⟨-, -, h4, -⟩ := hall i j ⟨hij, by omega⟩
    have e7 : s.1 * (f j - f i) = s.1 * f j - s.1 * f i := Int.mul_sub ..
    have e8 : ((j : Int) - i + 2 * m) * s.2.1 = (j : Int) * s.2.1 - (i : Int) * s.2.1 + 2 * m * s.2.1 := by rw [Int.add_mul, Int.sub_mul]
    omega
  · omega
  · obtain ⟨-, -, -, h4⟩ := hall j i ⟨hij, by omega⟩
    have hlt := hf.2 j i hij hi
    have q : ((i : Int) - j - 2 * m) * s.2.1 ≤ s.1 * (f i - f j) := by
      have := frac_up (A := (i : Int) - j - 2 * m) (R := s.2.2.2.2) (U := s.2.2.2.1) (b' := f i - f j) (b := s.2.1) (a := s.1) hV hR (by omega) h4 hfit
      exact this
    have e7 : s.1 * (f i - f j) = s.1 * f i - s.1 * f j := Int.mul_sub ..
    have e8 : ((i : Int) - j - 2 * m) * s.2.1 = (i : Int) * s.2.1 - (j : Int) * s.2.1 - 2 * m * s.2.1 := by rw [Int.sub_mul, Int.sub_mul]
    omega
theorem clL_ge {x last i m : Int} (h : i - m ≤ x) (h1 : i ≤ last) (hm : 0 ≤ m) : i ≤ clL x last + m := by
  unfold clL
  split
  · omega
  · split <;> omega
/-- a made piece's guess for what is not below its key i is not more than m below i -/
theorem dg_made {m E : Int} {f : Nat → Int} {n i : Nat} {k : Int} (hf : okF f n) (hn : 1 ≤ n) (hm : 0 ≤ m) (hfit : fitS (allF m f (n - 1))) (hi : i < n) (hk : f i ≤ k) : (i : Int) ≤ dg (pcOf m E f n) k + m := by
  have k0 : kf (pcOf m E f n) 0 = f 0 := kf_pcOf (by omega)
  have hl : (pks (pcOf m E f n)).length = n := len_pcOf m E f n
  unfold dg gs
  by_cases h1 : n = 1
  · have e : pki (pcOf m E f n) = 0 := by unfold pki pcOf; simp [h1]
    rw [if_pos e]; omega
  · have e : pki (pcOf m E f n) = 1 := by unfold pki pcOf; simp [h1]
    rw [if_neg (by omega), if_neg (by omega), hl, k0, pcOf_line h1]
    obtain ⟨p, g1, g2, g3, g4, g5⟩ := line_ge hf (by omega) hm hfit hi
    unfold lineOf
    dsimp only
    have hfi : f 0 ≤ f i := by
      rcases Nat.eq_zero_or_pos i with rfl | h0
      · exact Int.le_refl _
      · exact Int.le_of_lt (hf.2 0 i h0 hi)
    generalize allF m f (n - 1) = s at *
    rw [g1, show ((p : Nat) : Int).toNat = p by omega]
    have hgp := gcd_pos' (a := s.1) (b := s.2.1) (by omega)
    have d1 : ((Nat.gcd s.1.toNat s.2.1.toNat : Nat) : Int) ∣ s.1 := by
      have := Int.natCast_dvd_natCast.mpr (Nat.gcd_dvd_left s.1.toNat s.2.1.toNat)
      rw [show ((s.1.toNat : Nat) : Int) = s.1 by omega] at this; exact this
    have d2 : ((Nat.gcd s.1.toNat s.2.1.toNat : Nat) : Int) ∣ s.2.1 := by
      have := Int.natCast_dvd_natCast.mpr (Nat.gcd_dvd_right s.1.toNat s.2.1.toNat)
      rw [show ((s.2.1.toNat : Nat) : Int) = s.2.1 by omega] at this; exact this
    generalize Nat.gcd s.1.toNat s.2.1.toNat = g at *
    obtain ⟨r, hr⟩ := d1
    obtain ⟨u, hu⟩ := d2
    have gne : (g : Int) ≠ 0 := by omega
    have er : s.1 / (g : Int) = r := by rw [hr]; exact Int.mul_ediv_cancel_left r gne
    have eu : s.2.1 / (g : Int) = u := by rw [hu]; exact Int.mul_ediv_cancel_left u gne
    rw [er, eu]
    have hup : 0 < u := by
      refine Int.pos_of_mul_pos_right (a := (g : Int)) ?_ (by omega)
      omega
    have hrp : 0 < r := by
      refine Int.pos_of_mul_pos_right (a := (g : Int)) ?_ (by omega)
      omega
    have key : ((i : Int) - p) * u ≤ r * (f i - f p) := by
      refine Int.le_of_mul_le_mul_left (a := (g : Int)) ?_ (by omega)
      have e1 : (g : Int) * (((i : Int) - p) * u) = ((i : Int) - p) * s.2.1 := by rw [hu, ← Int.mul_assoc, Int.mul_comm (g : Int), Int.mul_assoc]
      have e2 : (g : Int) * (r * (f i - f p)) = s.1 * (f i - f p) := by rw [hr, Int.mul_assoc]
      rw [e1, e2]; exact g5
    refine clL_ge ?_ (by omega) hm
    refine (Int.le_ediv_iff_mul_le hup).mpr ?_
    have m1 : r * (f i - f 0) ≤ r * (k - f 0) := Int.mul_le_mul_of_nonneg_left (by omega) (by omega)
    have e1 : r * (f i - f 0) = r * f i - r * f 0 := Int.mul_sub ..
    have e2 : r * (f p - f 0) = r * f p - r * f 0 := Int.mul_sub ..
    have e3 : r * (f i - f p) = r * f i - r * f p := Int.mul_sub ..
    have e4 : u * ((p : Int) - m) = (p : Int) * u - m * u := by rw [Int.mul_comm, Int.sub_mul]
    have e5 : ((i : Int) - p) * u = (i : Int) * u - (p : Int) * u := Int.sub_mul ..
    have e6 : ((i : Int) - m) * u = (i : Int) * u - m * u := Int.sub_mul ..
    omega
/-! where a scan ends -/
theorem scan_spec (f : Nat → Int) (k : Int) : ∀ i, ((scan f k i).1 = 0 ∨ f (scan f k i).1 ≤ k) ∧ ∀ j, (scan f k i).1 < j → j ≤ i → k < f j
  | 0 => ⟨Or.inl rfl, fun j h1 h2 => by unfold scan at h1; dsimp only at h1; omega⟩
  | i + 1 => by
    obtain ⟨a, b⟩ := scan_spec f k i
    unfold scan
    split
    · rename_i h
      refine ⟨a, fun j h1 h2 => ?_⟩
      rcases Nat.lt_or_ge i j with w | w
      · rw [show j = i + 1 by omega]; exact h
      · exact b j h1 w
    · rename_i h
      refine ⟨Or.inr (by dsimp only; omega), fun j h1 h2 => by dsimp only at h1; omega⟩
/-- a place that is right for k -/
def loc (F : Nat → Int) (n : Nat) (k : Int) (p : Nat) : Prop := (p = 0 ∨ F p ≤ k) ∧ ∀ j, p < j → j < n → k < F j
theorem loc_dsc {q : Pc} {k : Int} (hq : pok q) (hp : pmo q) (hg : ∀ i, i < (pks q).length → kf q i ≤ k → (i : Int) ≤ dg q k + pma q) : loc (kf q) (pks q).length k (dsc q k).1 := by
  obtain ⟨d1, d2⟩ := dst_lt (k := k) hq hp
  obtain ⟨a, b⟩ := scan_spec (kf q) k (dst q k)
  refine ⟨a, fun j h1 h2 => ?_⟩
  rcases Nat.lt_or_ge (dst q k) j with w | w
  · refine Int.not_le.mp fun hle => ?_
    have := hg j h2 hle
    omega
  · exact b j h1 w
theorem dsc_lt {q : Pc} {k : Int} (hq : pok q) (hp : pmo q) : (dsc q k).1 < (pks q).length := by
  have h1 := (dst_lt (k := k) hq hp).1
  have h2 := (scan_le (kf q) k (dst q k)).1
  have h3 : (dsc q k).1 = (scan (kf q) k (dst q k)).1 := rfl
  omega
