/-! ===== the first keys of a tier's pieces ===== -/
/-- the first keys of pieces -/
def fk (l : List Pc) (i : Nat) : Int := match l[i]? with | some q => kf q 0 | none => 0
theorem c_firstKeys_4 {t : Nat} {l : List Pc} {Q K : Int → Im → Prop} (ht : t ∈ TL) (hl : l.length ≤ cap t) (hK : ksum l ≤ cap t) (hok : ∀ q, q ∈ l → pok q) :
    ∀ (d r : Nat) {M : Im}, r + d = l.length → K0 ≤ gz M → TR M t l →
    (∀ M', Ag (· = 18) M M' → (∀ j, j < r → gL M' 18 j = gL M 18 j) → (∀ j, r ≤ j → j < l.length → gL M' 18 j = fk l j) → K l.length M') → sp_X2_firstKeys_4 (d + 1) t (some 18) r r M Q K
  | 0, r, M, h, hk, hT, hQ => by
    obtain rfl : r = l.length := by omega
    unfold sp_X2_firstKeys_4
    rw [hT.2.2.1]
    exact ⟨fun _ => hQ M Ag.refl (fun j _ => rfl) (fun j h1 h2 => by omega), fun h => by omega⟩
  | d + 1, r, M, h, hk, hT, hQ => by
    have hcap := TL_cap ht
    have ft := TL_facts t ht
    obtain ⟨-, -, -, -, -, ft1, ft2, -, -, -, ft3, ft4, ft5⟩ := ft
    have a18 : alen 18 = 600 := rfl
    unfold sp_X2_firstKeys_4
    rw [hT.2.2.1]
    refine ⟨fun h => by omega, fun _ => ⟨18, rfl, iA_c hk (by decide) ⟨_, rfl⟩, fun h => by omega, fun _ => ⟨by rw [TL_l4]; omega, ?_⟩⟩⟩
    rintro r2 rfl
    have hq : l[r]? = some (l[r]'(by omega)) := List.getElem?_eq_getElem (by omega)
    generalize l[r]'(by omega) = q at hq
    obtain ⟨a, e1, e2, e3, e4⟩ := hT.2.2.2 r q hq
    have hq' := hok q (List.mem_of_getElem? hq)
    have kin := ksum_in hq
    rw [show ((r : Nat) : Int).toNat = r by omega, e1]
    refine ⟨fun h => (by cases h), fun a3 ha3 => ?_⟩
    cases ha3
    refine c_keyOf hk ht e2 e3 e4 hT.1 kin hK (fun i hi hi2 => ?_) (fun h => absurd ⟨Int.le_refl _, by have := hq'.1.2.1; omega⟩ h)
    obtain rfl : i = 0 := by omega
    unfold sp_X2_firstKeys_46
    refine ⟨by omega, ?_⟩
    rintro M6 rfl
    refine ⟨by omega, ?_⟩
    rintro i7 rfl
    refine ⟨by omega, ?_⟩
    rintro i8 rfl
    rw [show ((r : Nat) : Int).toNat = r by omega, show (r : Int) + 1 = ((r + 1 : Nat) : Int) by omega]
    have g : Ag (· = 18) M (pL M 18 r (kf q 0)) := (Ag.refl (S := (· = 18))).pL rfl
    have T' : TR (pL M 18 r (kf q 0)) t l := by
      obtain ⟨h1, h2, h3, h4⟩ := hT
      refine ⟨by rw [g.I (by omega)]; exact h1, by rw [g.I (by omega)]; exact h2, by rw [g.I (by omega)]; exact h3, fun p q hq => ?_⟩
      obtain ⟨a, e1, e2, e3, e4⟩ := h4 p q hq
      exact ⟨a, by rw [g.R (by omega)]; exact e1, e2, by rw [g.1]; exact e3, e4.frame (fun j => g.I (by omega) j) (fun j => g.L (by omega) j) (fun j => g.D (by omega) j) (fun i _ => g.L (by omega) i) (fun i _ => g.I (by omega) i) (fun i _ => g.L (by omega) i)⟩
    refine c_firstKeys_4 ht hl hK hok d (r + 1) (by omega) (g.k0 hk) T' fun M' g2 h1 h2 => hQ M' (g.trans g2) (fun j hj => ?_) (fun j hj1 hj2 => ?_)
    · rw [h1 j (by omega)]
      simp only [gI_pI, gI_pL, gI_pD, gI_pR, gI_pnw, gI_pcp, gL_pI, gL_pL, gL_pD, gL_pR, gL_pnw, gL_pcp, gD_pI, gD_pL, gD_pD, gD_pR, gD_pnw, gD_pcp, gR_pI, gR_pL, gR_pD, gR_pR, gR_pnw, gR_pcp, gz_pI, gz_pL, gz_pD, gz_pR, gz_pnw, gz_pcp]
      rw [if_neg (by omega)]
    · by_cases e : j = r
      · subst e
        rw [h1 j (by omega)]
        simp [gI_pI, gI_pL, gI_pD, gI_pR, gI_pnw, gI_pcp, gL_pI, gL_pL, gL_pD, gL_pR, gL_pnw, gL_pcp, gD_pI, gD_pL, gD_pD, gD_pR, gD_pnw, gD_pcp, gR_pI, gR_pL, gR_pD, gR_pR, gR_pnw, gR_pcp, gz_pI, gz_pL, gz_pD, gz_pR, gz_pnw, gz_pcp, fk, hq]
      · exact h2 j (by omega) hj2
theorem c_firstKeys {M : Im} {t : Nat} {l : List Pc} {Q : Int → Im → Prop} (ht : t ∈ TL) (hl : l.length ≤ cap t) (hK : ksum l ≤ cap t) (hok : ∀ q, q ∈ l → pok q) (hk : K0 ≤ gz M) (hT : TR M t l)
    (hQ : ∀ M', Ag (· = 18) M M' → (∀ j, j < l.length → gL M' 18 j = fk l j) → Q l.length M') : sp_X2_firstKeys t (some 18) M Q := by
  unfold sp_X2_firstKeys
  exact ⟨TL_O ht hk, l.length + 1, c_firstKeys_4 (Q := Q) (K := fun x2 M => Q x2 M) ht hl hK hok l.length 0 (by omega) hk hT fun M' g _ h => hQ M' g fun j hj => h j (by omega) hj⟩
