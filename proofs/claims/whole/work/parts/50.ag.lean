/-! ===== reading a memory that was written ===== -/
theorem gI_pI (M : Im) (a j : Nat) (v : Int) (b k : Nat) : gI (pI M a j v) b k = if b = a ∧ k = j then v else gI M b k := rfl
theorem gI_pL (M : Im) (a j : Nat) (v : Int) (b k : Nat) : gI (pL M a j v) b k = gI M b k := rfl
theorem gI_pD (M : Im) (a j : Nat) (v : UInt64) (b k : Nat) : gI (pD M a j v) b k = gI M b k := rfl
theorem gI_pR (M : Im) (a j : Nat) (v : Option Nat) (b k : Nat) : gI (pR M a j v) b k = gI M b k := rfl
theorem gI_pnw (M : Im) (b k : Nat) : gI (pnw M) b k = if b = gz M then 0 else gI M b k := rfl
theorem gI_pcp (M : Im) (a sp c dp n b k : Nat) : gI (pcp M a sp c dp n) b k = gI M b k := rfl
theorem gL_pI (M : Im) (a j : Nat) (v : Int) (b k : Nat) : gL (pI M a j v) b k = gL M b k := rfl
theorem gL_pL (M : Im) (a j : Nat) (v : Int) (b k : Nat) : gL (pL M a j v) b k = if b = a ∧ k = j then v else gL M b k := rfl
theorem gL_pD (M : Im) (a j : Nat) (v : UInt64) (b k : Nat) : gL (pD M a j v) b k = gL M b k := rfl
theorem gL_pR (M : Im) (a j : Nat) (v : Option Nat) (b k : Nat) : gL (pR M a j v) b k = gL M b k := rfl
theorem gL_pnw (M : Im) (b k : Nat) : gL (pnw M) b k = if b = gz M then 0 else gL M b k := rfl
theorem gL_pcp (M : Im) (a sp c dp n b k : Nat) : gL (pcp M a sp c dp n) b k = if b = c ∧ (dp ≤ k ∧ k < dp + n) then gL M a (sp + (k - dp)) else gL M b k := rfl
theorem gD_pI (M : Im) (a j : Nat) (v : Int) (b k : Nat) : gD (pI M a j v) b k = gD M b k := rfl
theorem gD_pL (M : Im) (a j : Nat) (v : Int) (b k : Nat) : gD (pL M a j v) b k = gD M b k := rfl
theorem gD_pD (M : Im) (a j : Nat) (v : UInt64) (b k : Nat) : gD (pD M a j v) b k = if b = a ∧ k = j then v else gD M b k := rfl
theorem gD_pR (M : Im) (a j : Nat) (v : Option Nat) (b k : Nat) : gD (pR M a j v) b k = gD M b k := rfl
theorem gD_pnw (M : Im) (b k : Nat) : gD (pnw M) b k = if b = gz M then 0 else gD M b k := rfl
theorem gD_pcp (M : Im) (a sp c dp n b k : Nat) : gD (pcp M a sp c dp n) b k = gD M b k := rfl
theorem gR_pI (M : Im) (a j : Nat) (v : Int) (b k : Nat) : gR (pI M a j v) b k = gR M b k := rfl
theorem gR_pL (M : Im) (a j : Nat) (v : Int) (b k : Nat) : gR (pL M a j v) b k = gR M b k := rfl
theorem gR_pD (M : Im) (a j : Nat) (v : UInt64) (b k : Nat) : gR (pD M a j v) b k = gR M b k := rfl
theorem gR_pR (M : Im) (a j : Nat) (v : Option Nat) (b k : Nat) : gR (pR M a j v) b k = if b = a ∧ k = j then v else gR M b k := rfl
theorem gR_pnw (M : Im) (b k : Nat) : gR (pnw M) b k = if b = gz M then none else gR M b k := rfl
theorem gR_pcp (M : Im) (a sp c dp n b k : Nat) : gR (pcp M a sp c dp n) b k = gR M b k := rfl
theorem gz_pI (M : Im) (a j : Nat) (v : Int) : gz (pI M a j v) = gz M := rfl
theorem gz_pL (M : Im) (a j : Nat) (v : Int) : gz (pL M a j v) = gz M := rfl
theorem gz_pD (M : Im) (a j : Nat) (v : UInt64) : gz (pD M a j v) = gz M := rfl
theorem gz_pR (M : Im) (a j : Nat) (v : Option Nat) : gz (pR M a j v) = gz M := rfl
theorem gz_pnw (M : Im) : gz (pnw M) = gz M + 1 := rfl
theorem gz_pcp (M : Im) (a sp c dp n : Nat) : gz (pcp M a sp c dp n) = gz M := rfl
theorem iO_c {M : Im} {a ci : Nat} (h : K0 ≤ gz M) (ha : a < 97) (hs : shp a = .inr ci) : iO M a ci := ⟨hs, Nat.lt_of_lt_of_le ha h⟩
theorem iA_c {M : Im} {a : Nat} {t : FieldType} (h : K0 ≤ gz M) (ha : a < 97) (hs : ∃ n, shp a = .inl (t, n)) : iA M a t := ⟨hs, Nat.lt_of_lt_of_le ha h⟩
/-! ===== memories that agree but at some places ===== -/
def Ag (S : Nat → Prop) (M M' : Im) : Prop := gz M' = gz M ∧ ∀ a, ¬ S a → ∀ j, gI M' a j = gI M a j ∧ gL M' a j = gL M a j ∧ gD M' a j = gD M a j ∧ gR M' a j = gR M a j
theorem Ag.refl {S : Nat → Prop} {M : Im} : Ag S M M := ⟨rfl, fun _ _ _ => ⟨rfl, rfl, rfl, rfl⟩⟩
theorem Ag.trans {S : Nat → Prop} {M M' M'' : Im} (h : Ag S M M') (h' : Ag S M' M'') : Ag S M M'' :=
  ⟨h'.1.trans h.1, fun a ha j => ⟨(h'.2 a ha j).1.trans (h.2 a ha j).1, (h'.2 a ha j).2.1.trans (h.2 a ha j).2.1, (h'.2 a ha j).2.2.1.trans (h.2 a ha j).2.2.1, (h'.2 a ha j).2.2.2.trans (h.2 a ha j).2.2.2⟩⟩
theorem Ag.mono {S S' : Nat → Prop} {M M' : Im} (h : Ag S M M') (hS : ∀ a, S a → S' a) : Ag S' M M' := ⟨h.1, fun a ha j => h.2 a (fun q => ha (hS a q)) j⟩
theorem Ag.pI {S : Nat → Prop} {M M' : Im} (h : Ag S M M') {a j : Nat} {v : Int} (ha : S a) : Ag S M (pI M' a j v) :=
  h.trans ⟨rfl, fun b hb k => ⟨by rw [gI_pI, if_neg (c := b = a ∧ k = j) (fun q => hb (q.1 ▸ ha))], rfl, rfl, rfl⟩⟩
theorem Ag.pL {S : Nat → Prop} {M M' : Im} (h : Ag S M M') {a j : Nat} {v : Int} (ha : S a) : Ag S M (pL M' a j v) :=
  h.trans ⟨rfl, fun b hb k => ⟨rfl, by rw [gL_pL, if_neg (c := b = a ∧ k = j) (fun q => hb (q.1 ▸ ha))], rfl, rfl⟩⟩
theorem Ag.pD {S : Nat → Prop} {M M' : Im} (h : Ag S M M') {a j : Nat} {v : UInt64} (ha : S a) : Ag S M (pD M' a j v) :=
  h.trans ⟨rfl, fun b hb k => ⟨rfl, rfl, by rw [gD_pD, if_neg (c := b = a ∧ k = j) (fun q => hb (q.1 ▸ ha))], rfl⟩⟩
theorem Ag.pR {S : Nat → Prop} {M M' : Im} (h : Ag S M M') {a j : Nat} {v : Option Nat} (ha : S a) : Ag S M (pR M' a j v) :=
  h.trans ⟨rfl, fun b hb k => ⟨rfl, rfl, rfl, by rw [gR_pR, if_neg (c := b = a ∧ k = j) (fun q => hb (q.1 ▸ ha))]⟩⟩
theorem Ag.pcp {S : Nat → Prop} {M M' : Im} (h : Ag S M M') {a sp c dp n : Nat} (ha : S c) : Ag S M (pcp M' a sp c dp n) :=
  h.trans ⟨rfl, fun b hb k => ⟨rfl, by rw [gL_pcp, if_neg (c := b = c ∧ (dp ≤ k ∧ k < dp + n)) (fun q => hb (q.1 ▸ ha))], rfl, rfl⟩⟩
theorem Ag.I {S : Nat → Prop} {M M' : Im} (h : Ag S M M') {a : Nat} (ha : ¬ S a) (j : Nat) : gI M' a j = gI M a j := (h.2 a ha j).1
theorem Ag.L {S : Nat → Prop} {M M' : Im} (h : Ag S M M') {a : Nat} (ha : ¬ S a) (j : Nat) : gL M' a j = gL M a j := (h.2 a ha j).2.1
theorem Ag.D {S : Nat → Prop} {M M' : Im} (h : Ag S M M') {a : Nat} (ha : ¬ S a) (j : Nat) : gD M' a j = gD M a j := (h.2 a ha j).2.2.1
theorem Ag.R {S : Nat → Prop} {M M' : Im} (h : Ag S M M') {a : Nat} (ha : ¬ S a) (j : Nat) : gR M' a j = gR M a j := (h.2 a ha j).2.2.2
theorem Ag.O {S : Nat → Prop} {M M' : Im} (h : Ag S M M') {a ci : Nat} (ho : iO M a ci) : iO M' a ci := ⟨ho.1, by rw [h.1]; exact ho.2⟩
theorem Ag.A {S : Nat → Prop} {M M' : Im} (h : Ag S M M') {a : Nat} {t : FieldType} (ho : iA M a t) : iA M' a t := ⟨ho.1, by rw [h.1]; exact ho.2⟩
theorem Ag.k0 {S : Nat → Prop} {M M' : Im} (h : Ag S M M') (hk : K0 ≤ gz M) : K0 ≤ gz M' := by rw [h.1]; exact hk
