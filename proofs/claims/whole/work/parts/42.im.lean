/-! ===== the memory over Int ===== -/
def iz (z : Int) : Int32 := Int32.ofInt z
def lz (z : Int) : Int64 := Int64.ofInt z
abbrev Im : Type := (Nat → Nat → Int) × (Nat → Nat → Int) × (Nat → Nat → UInt64) × (Nat → Nat → Option Nat) × Nat
def gI (M : Im) (a j : Nat) : Int := M.1 a j
def gL (M : Im) (a j : Nat) : Int := M.2.1 a j
def gD (M : Im) (a j : Nat) : UInt64 := M.2.2.1 a j
def gR (M : Im) (a j : Nat) : Option Nat := M.2.2.2.1 a j
def gz (M : Im) : Nat := M.2.2.2.2
def pI (M : Im) (a j : Nat) (v : Int) : Im := (up2 M.1 a j v, M.2.1, M.2.2.1, M.2.2.2.1, M.2.2.2.2)
def pL (M : Im) (a j : Nat) (v : Int) : Im := (M.1, up2 M.2.1 a j v, M.2.2.1, M.2.2.2.1, M.2.2.2.2)
def pD (M : Im) (a j : Nat) (v : UInt64) : Im := (M.1, M.2.1, up2 M.2.2.1 a j v, M.2.2.2.1, M.2.2.2.2)
def pR (M : Im) (a j : Nat) (v : Option Nat) : Im := (M.1, M.2.1, M.2.2.1, up2 M.2.2.2.1 a j v, M.2.2.2.2)
def pnw (M : Im) : Im := (cl1 M.1 (gz M) 0, cl1 M.2.1 (gz M) 0, cl1 M.2.2.1 (gz M) 0, cl1 M.2.2.2.1 (gz M) none, gz M + 1)
def pcp (M : Im) (a sp b dp n : Nat) : Im := (M.1, (fun c k => if c = b ∧ (dp ≤ k ∧ k < dp + n) then M.2.1 a (sp + (k - dp)) else M.2.1 c k), M.2.2.1, M.2.2.2.1, M.2.2.2.2)
def gz4 (M : Im) (k j : Nat) : Option Nat := match zfin k j with | some a => some a | none => gR M k j
def iO (M : Im) (a ci : Nat) : Prop := shp a = .inr ci ∧ a < gz M
def iA (M : Im) (a : Nat) (t : FieldType) : Prop := (∃ n, shp a = .inl (t, n)) ∧ a < gz M
def ab (M : Mem) : Im := (fun a j => (mI M a j).toInt, fun a j => (mL M a j).toInt, M.2.2.1, M.2.2.2.1, M.2.2.2.2)
theorem tr_I {M : Mem} {a j j' : Nat} (h : j = j') : (mI M a j).toInt = gI (ab M) a j' := by subst h; rfl
theorem tr_L {M : Mem} {a j j' : Nat} (h : j = j') : (mL M a j).toInt = gL (ab M) a j' := by subst h; rfl
theorem tr_D {M : Mem} {a j j' : Nat} (h : j = j') : mD M a j = gD (ab M) a j' := by subst h; rfl
theorem tr_R {M : Mem} {a j j' : Nat} (h : j = j') : mR M a j = gR (ab M) a j' := by subst h; rfl
theorem tr_Z {M : Mem} {a j j' : Nat} (h : j = j') : zref true M a j = gz4 (ab M) a j' := by subst h; rfl
theorem tnatI {x : Int32} {y : Int} (h : x.toInt = y) : x.toNatClampNeg = y.toNat := by subst h; rfl
theorem tnatJ {x : Int64} {y : Int} (h : x.toInt = y) : x.toNatClampNeg = y.toNat := by subst h; rfl
theorem alen_le (a : Nat) : alen a ≤ 160000 := by
  unfold alen
  by_cases h : a < 97
  · have : ∀ a, a < 97 → (match shp a with | .inl q => q.2 | .inr _ => 0) ≤ 160000 := by decide +kernel
    exact this a h
  · have e : shp a = .inr 0 := by
      unfold shp
      have e : shpL.length = 97 := by decide +kernel
      rw [List.getD_eq_getElem?_getD, List.getElem?_eq_none (by omega)]; rfl
    rw [e]; exact Nat.zero_le _
theorem t_alen (a : Nat) : (Int32.ofNat (alen a)).toInt = (alen a : Int) := by
  have := alen_le a
  rw [Int32.toInt_ofNat_of_lt (by omega)]
theorem of32 {x : Int32} {y : Int} (h : x.toInt = y) : x = iz y := by subst h; exact (Int32.ofInt_toInt x).symm
theorem of64 {x : Int64} {y : Int} (h : x.toInt = y) : x = lz y := by subst h; exact (Int64.ofInt_toInt x).symm
theorem iz_t {a : Int} (h : -2147483648 ≤ a ∧ a < 2147483648) : (iz a).toInt = a := Int32.toInt_ofInt_of_le (by omega) (by omega)
theorem lz_t {a : Int} (h : -9223372036854775808 ≤ a ∧ a < 9223372036854775808) : (lz a).toInt = a := Int64.toInt_ofInt_of_le (by omega) (by omega)
theorem taddI {x x' : Int32} {y y' : Int} (h : x.toInt = y) (h' : x'.toInt = y') (r : -2147483648 ≤ y + y' ∧ y + y' < 2147483648) : (x + x').toInt = y + y' := by
  rw [of32 h, of32 h', iz, iz, ← Int32.ofInt_add]; exact iz_t r
theorem tsubI {x x' : Int32} {y y' : Int} (h : x.toInt = y) (h' : x'.toInt = y') (r : -2147483648 ≤ y - y' ∧ y - y' < 2147483648) : (x - x').toInt = y - y' := by
  rw [of32 h, of32 h', iz, iz, ← Int32.ofInt_sub]; exact iz_t r
theorem tmulI {x x' : Int32} {y y' : Int} (h : x.toInt = y) (h' : x'.toInt = y') (r : -2147483648 ≤ y * y' ∧ y * y' < 2147483648) : (x * x').toInt = y * y' := by
  rw [of32 h, of32 h', iz, iz, ← Int32.ofInt_mul]; exact iz_t r
theorem tnegI {x : Int32} {y : Int} (h : x.toInt = y) (r : -2147483648 ≤ -y ∧ -y < 2147483648) : (-x).toInt = -y := by
  rw [of32 h, iz, ← Int32.ofInt_neg]; exact iz_t r
theorem taddJ {x x' : Int64} {y y' : Int} (h : x.toInt = y) (h' : x'.toInt = y') (r : -9223372036854775808 ≤ y + y' ∧ y + y' < 9223372036854775808) : (x + x').toInt = y + y' := by
  rw [of64 h, of64 h', lz, lz, ← Int64.ofInt_add]; exact lz_t r
theorem tsubJ {x x' : Int64} {y y' : Int} (h : x.toInt = y) (h' : x'.toInt = y') (r : -9223372036854775808 ≤ y - y' ∧ y - y' < 9223372036854775808) : (x - x').toInt = y - y' := by
  rw [of64 h, of64 h', lz, lz, ← Int64.ofInt_sub]; exact lz_t r
theorem tmulJ {x x' : Int64} {y y' : Int} (h : x.toInt = y) (h' : x'.toInt = y') (r : -9223372036854775808 ≤ y * y' ∧ y * y' < 9223372036854775808) : (x * x').toInt = y * y' := by
  rw [of64 h, of64 h', lz, lz, ← Int64.ofInt_mul]; exact lz_t r
theorem tnegJ {x : Int64} {y : Int} (h : x.toInt = y) (r : -9223372036854775808 ≤ -y ∧ -y < 9223372036854775808) : (-x).toInt = -y := by
  rw [of64 h, lz, ← Int64.ofInt_neg]; exact lz_t r
theorem tdivI {x x' : Int32} {y y' : Int} (h : x.toInt = y) (h' : x'.toInt = y') (r : -2147483648 ≤ y.tdiv y' ∧ y.tdiv y' < 2147483648) : (x / x').toInt = y.tdiv y' := by
  rw [Int32.toInt_div, h, h']; exact Int.bmod_eq_of_le (by omega) (by omega)
theorem tdivJ {x x' : Int64} {y y' : Int} (h : x.toInt = y) (h' : x'.toInt = y') (r : -9223372036854775808 ≤ y.tdiv y' ∧ y.tdiv y' < 9223372036854775808) : (x / x').toInt = y.tdiv y' := by
  rw [Int64.toInt_div, h, h']; exact Int.bmod_eq_of_le (by omega) (by omega)
theorem ti2l {x : Int32} {y : Int} (h : x.toInt = y) : x.toInt64.toInt = y := by rw [Int32.toInt_toInt64]; exact h
theorem tl2i {x : Int64} {y : Int} (h : x.toInt = y) (r : -2147483648 ≤ y ∧ y < 2147483648) : x.toInt32.toInt = y := by
  rw [of64 h, lz, Int64.toInt32_ofInt]; exact iz_t r
theorem tbinI (f : Int32 → Int32 → Int32) {x x' : Int32} {y y' : Int} (h : x.toInt = y) (h' : x'.toInt = y') : (f x x').toInt = (f (iz y) (iz y')).toInt := by rw [← of32 h, ← of32 h']
theorem tbinJ (f : Int64 → Int64 → Int64) {x x' : Int64} {y y' : Int} (h : x.toInt = y) (h' : x'.toInt = y') : (f x x').toInt = (f (lz y) (lz y')).toInt := by rw [← of64 h, ← of64 h']
theorem cltI {x x' : Int32} {y y' : Int} (h : x.toInt = y) (h' : x'.toInt = y') (c : x < x') : y < y' := by rw [← h, ← h']; exact Int32.lt_iff_toInt_lt.mp c
theorem cltJ {x x' : Int64} {y y' : Int} (h : x.toInt = y) (h' : x'.toInt = y') (c : x < x') : y < y' := by rw [← h, ← h']; exact Int64.lt_iff_toInt_lt.mp c
theorem cnltI {x x' : Int32} {y y' : Int} (h : x.toInt = y) (h' : x'.toInt = y') (c : ¬ x < x') : y' ≤ y := by rw [← h, ← h']; exact Int.not_lt.mp fun q => c (Int32.lt_iff_toInt_lt.mpr q)
theorem cnltJ {x x' : Int64} {y y' : Int} (h : x.toInt = y) (h' : x'.toInt = y') (c : ¬ x < x') : y' ≤ y := by rw [← h, ← h']; exact Int.not_lt.mp fun q => c (Int64.lt_iff_toInt_lt.mpr q)
theorem cleI {x x' : Int32} {y y' : Int} (h : x.toInt = y) (h' : x'.toInt = y') (c : x ≤ x') : y ≤ y' := by rw [← h, ← h']; exact Int32.le_iff_toInt_le.mp c
theorem cleJ {x x' : Int64} {y y' : Int} (h : x.toInt = y) (h' : x'.toInt = y') (c : x ≤ x') : y ≤ y' := by rw [← h, ← h']; exact Int64.le_iff_toInt_le.mp c
theorem cnleI {x x' : Int32} {y y' : Int} (h : x.toInt = y) (h' : x'.toInt = y') (c : ¬ x ≤ x') : y' < y := by rw [← h, ← h']; exact Int.not_le.mp fun q => c (Int32.le_iff_toInt_le.mpr q)
theorem cnleJ {x x' : Int64} {y y' : Int} (h : x.toInt = y) (h' : x'.toInt = y') (c : ¬ x ≤ x') : y' < y := by rw [← h, ← h']; exact Int.not_le.mp fun q => c (Int64.le_iff_toInt_le.mpr q)
theorem ceqI {x x' : Int32} {y y' : Int} (h : x.toInt = y) (h' : x'.toInt = y') (c : x = x') : y = y' := by rw [← h, ← h', c]
theorem ceqJ {x x' : Int64} {y y' : Int} (h : x.toInt = y) (h' : x'.toInt = y') (c : x = x') : y = y' := by rw [← h, ← h', c]
theorem cneI {x x' : Int32} {y y' : Int} (h : x.toInt = y) (h' : x'.toInt = y') (c : ¬ x = x') : ¬ y = y' := by rw [← h, ← h']; exact fun q => c (Int32.toInt_inj.mp q)
theorem cneJ {x x' : Int64} {y y' : Int} (h : x.toInt = y) (h' : x'.toInt = y') (c : ¬ x = x') : ¬ y = y' := by rw [← h, ← h']; exact fun q => c (Int64.toInt_inj.mp q)
theorem tinb {x : Int32} {y : Int} {n : Nat} (h : x.toInt = y) (r : 0 ≤ y ∧ y < (n : Int)) : inb x n := by
  unfold inb; rw [vp_in_iff, h]; exact r
theorem t01 {x : Int32} {y : Int} (h : x.toInt = y) (r : y = 0 ∨ y = 1) : x = 0 ∨ x = 1 := by
  rcases r with r | r
  · left; rw [of32 h, r]; rfl
  · right; rw [of32 h, r]; rfl
theorem tnzI {x : Int32} {y : Int} (h : x.toInt = y) (r : ¬ y = 0) : ¬ x = 0 := fun q => r (by rw [← h, q]; rfl)
theorem tnzJ {x : Int64} {y : Int} (h : x.toInt = y) (r : ¬ y = 0) : ¬ x = 0 := fun q => r (by rw [← h, q]; rfl)
theorem tnlI {x : Int32} {y : Int} (h : x.toInt = y) (r : 0 ≤ y) : ¬ x < 0 := fun q => by have := cltI (y' := 0) h (rfl : (0 : Int32).toInt = 0) q; omega
theorem tshp {n n' k : Nat} {t : FieldType} (h : n = n') (r : shp k = .inl (t, n')) : shp k = .inl (t, n) := by subst h; exact r
theorem tby {n n' : Nat} (h : n = n') (r : n' * 8 ≤ 536870912) : n * 8 ≤ 536870912 := by subst h; exact r
theorem tcp {n n' m m' k : Nat} (h : n = n') (h' : m = m') (r : n' + m' ≤ k) : n + m ≤ k := by subst h; subst h'; exact r
theorem alk {f x y : UInt64} (h : x = y) (c : alike64 f x = true) : alike64 f y = true := h ▸ c
theorem ab_up {α β : Type} (g : α → β) (f : Nat → Nat → α) (a j : Nat) (v : α) : (fun b k => g (up2 f a j v b k)) = up2 (fun b k => g (f b k)) a j (g v) := by
  funext b k; unfold up2; split <;> rfl
theorem ab_sI {M : Mem} {a j j' : Nat} {x : Int32} {y : Int} (h : j = j') (t : x.toInt = y) : ab (sI M a j x) = pI (ab M) a j' y := by
  subst h; subst t
  show ((fun b k => (up2 M.1 a j x b k).toInt), _) = (up2 (fun b k => (M.1 b k).toInt) a j x.toInt, _)
  rw [ab_up Int32.toInt]; rfl
theorem ab_sL {M : Mem} {a j j' : Nat} {x : Int64} {y : Int} (h : j = j') (t : x.toInt = y) : ab (sL M a j x) = pL (ab M) a j' y := by
  subst h; subst t
  show (_, (fun b k => (up2 M.2.1 a j x b k).toInt), _) = (_, up2 (fun b k => (M.2.1 b k).toInt) a j x.toInt, _)
  rw [ab_up Int64.toInt]; rfl
theorem ab_sD {M : Mem} {a j j' : Nat} {x y : UInt64} (h : j = j') (t : x = y) : ab (sD M a j x) = pD (ab M) a j' y := by subst h; subst t; rfl
theorem ab_sR {M : Mem} {a j j' : Nat} {x y : Option Nat} (h : j = j') (t : x = y) : ab (sR M a j x) = pR (ab M) a j' y := by subst h; subst t; rfl
theorem ab_nw {M : Mem} : ab (nw M) = pnw (ab M) := by
  show ((fun b k => (cl1 M.1 (mz M) 0 b k).toInt), (fun b k => (cl1 M.2.1 (mz M) 0 b k).toInt), _) = (cl1 (fun b k => (M.1 b k).toInt) (mz M) 0, cl1 (fun b k => (M.2.1 b k).toInt) (mz M) 0, _)
  congr 1
  · funext b k; unfold cl1; split <;> rfl
  · congr 1
    funext b k; unfold cl1; split <;> rfl
theorem ab_cp {M : Mem} {a b sp sp' dp dp' n n' : Nat} (h1 : sp = sp') (h2 : dp = dp') (h3 : n = n') : ab (cpL M a sp b dp n) = pcp (ab M) a sp' b dp' n' := by
  subst h1; subst h2; subst h3
  unfold ab cpL pcp
  congr 2
  funext c k
  show (if c = b ∧ (dp ≤ k ∧ k < dp + n) then M.2.1 a (sp + (k - dp)) else M.2.1 c k).toInt = _
  split
  · rfl
  · rfl
theorem cg2 {α β γ : Type} (f : α → β → γ) {a a' : α} {b b' : β} (h : a = a') (h' : b = b') : f a b = f a' b' := by subst h; subst h'; rfl
