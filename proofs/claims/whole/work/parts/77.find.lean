/-! ===== a find: the way through the tiers ===== -/
/-- from place i down to one whose key is not above k, or 0: which, and how many were looked at -/
def scan (f : Nat → Int) (k : Int) : Nat → Nat × Nat
  | 0 => (0, 0)
  | i + 1 => if k < f (i + 1) then ((scan f k i).1, (scan f k i).2 + 1) else (i + 1, 1)
theorem scan_le (f : Nat → Int) (k : Int) : ∀ i, (scan f k i).1 ≤ i ∧ (scan f k i).2 ≤ i
  | 0 => ⟨Nat.le_refl _, Nat.le_refl _⟩
  | i + 1 => by
    have := scan_le f k i
    unfold scan
    split
    · dsimp only; omega
    · dsimp only; omega
def dg (q : Pc) (k : Int) : Int := gs q (k - kf q 0)
def dst (q : Pc) (k : Int) : Nat := (min (dg q k + pma q) ((pks q).length - 1)).toNat
def dsc (q : Pc) (k : Int) : Nat × Nat := scan (kf q) k (dst q k)
/-- a trace at z: what it has told -/
def TW (M : Im) (z : Nat) (w : List Int) : Prop := gI M z 1 = w.length ∧ ∀ j v, w[j]? = some v → gI M (z + 1) j = v
def zT (z : Nat) : Prop := z = 13 ∨ z = 15
theorem zT_O {M : Im} {z : Nat} (h : zT z) (hk : K0 ≤ gz M) : iO M z 3 := by rcases h with rfl | rfl <;> exact iO_c hk (by decide) rfl
theorem zT_l {z : Nat} (h : zT z) : alen (z + 1) = 34 := by rcases h with rfl | rfl <;> rfl
def pmo (q : Pc) : Prop := 0 ≤ pma q ∧ pma q ≤ 40
theorem c_tell {M : Im} {z : Nat} {w : List Int} {v : Int} {Q : Im → Prop} (hk : K0 ≤ gz M) (hz : zT z) (hw : TW M z w) (hl : w.length < 34)
    (hQ : ∀ M', Ag (fun b => b = z ∨ b = z + 1) M M' → (∀ j, j ≠ 1 → gI M' z j = gI M z j) → TW M' z (w ++ [v]) → Q M') : sp_X3_tell z v M Q := by
  obtain ⟨h1, h2⟩ := hw
  unfold sp_X3_tell
  rw [h1, zT_l hz]
  refine ⟨zT_O hz hk, fun h => by omega, fun _ => ⟨by omega, ?_⟩⟩
  rintro M1 rfl
  have e : gI (pI M (z + 1) ((w.length : Int)).toNat v) z 1 = w.length := by simp only [gI_pI, gI_pL, gI_pD, gI_pR, gI_pnw, gI_pcp, gL_pI, gL_pL, gL_pD, gL_pR, gL_pnw, gL_pcp, gD_pI, gD_pL, gD_pD, gD_pR, gD_pnw, gD_pcp, gR_pI, gR_pL, gR_pD, gR_pR, gR_pnw, gR_pcp, gz_pI, gz_pL, gz_pD, gz_pR, gz_pnw, gz_pcp]; rw [if_neg (by omega)]; exact h1
  rw [e]
  refine ⟨by omega, ?_⟩
  rintro M2 rfl
  refine hQ _ (((Ag.refl (S := fun b => b = z ∨ b = z + 1)).pI (Or.inr rfl)).pI (Or.inl rfl)) (fun j hj => ?_) ⟨?_, fun j x hx => ?_⟩
  · simp only [gI_pI, gI_pL, gI_pD, gI_pR, gI_pnw, gI_pcp, gL_pI, gL_pL, gL_pD, gL_pR, gL_pnw, gL_pcp, gD_pI, gD_pL, gD_pD, gD_pR, gD_pnw, gD_pcp, gR_pI, gR_pL, gR_pD, gR_pR, gR_pnw, gR_pcp, gz_pI, gz_pL, gz_pD, gz_pR, gz_pnw, gz_pcp]; rw [if_neg (by omega), if_neg (by omega)]
  · simp [gI_pI, gI_pL, gI_pD, gI_pR, gI_pnw, gI_pcp, gL_pI, gL_pL, gL_pD, gL_pR, gL_pnw, gL_pcp, gD_pI, gD_pL, gD_pD, gD_pR, gD_pnw, gD_pcp, gR_pI, gR_pL, gR_pD, gR_pR, gR_pnw, gR_pcp, gz_pI, gz_pL, gz_pD, gz_pR, gz_pnw, gz_pcp]
  · simp only [gI_pI, gI_pL, gI_pD, gI_pR, gI_pnw, gI_pcp, gL_pI, gL_pL, gL_pD, gL_pR, gL_pnw, gL_pcp, gD_pI, gD_pL, gD_pD, gD_pR, gD_pnw, gD_pcp, gR_pI, gR_pL, gR_pD, gR_pR, gR_pnw, gR_pcp, gz_pI, gz_pL, gz_pD, gz_pR, gz_pnw, gz_pcp]
    rw [if_neg (by omega)]
    rcases Nat.lt_or_ge j w.length with hj | hj
    · rw [List.getElem?_append_left hj] at hx
      rw [if_neg (by omega)]
      exact h2 j x hx
    · rw [List.getElem?_append_right hj] at hx
      have : j - w.length = 0 := by
        have := (List.getElem?_eq_some_iff.mp hx).1
        simp at this; omega
      rw [this] at hx
      simp at hx
      rw [if_pos ⟨trivial, by omega⟩]
      exact hx
theorem c_descend_53 {z t p a st sl n : Nat} {k g : Int} {q : Pc} {Q : Int → Im → Prop} {K111 : Nat → Int → Nat → Int → Int → Im → Prop} (hz : zT z) (ht : t ∈ TL) (ha : 97 ≤ a) (hn1 : st + (pks q).length ≤ n) (hn2 : n ≤ cap t) :
    ∀ (i : Nat) {M : Im} {lk : Nat}, i < (pks q).length → K0 ≤ gz M → a < gz M → PR M t a st sl q → gI M t 4 = (n : Nat) → gI M z 2 = (lk : Nat) → lk + i ≤ 200000 → (∀ M', Ag (· = z) M M' → (∀ j, j ≠ 2 → gI M' z j = gI M z j) → gI M' z 2 = ((lk + (scan (kf q) k i).2 : Nat) : Int) → K111 z p a g (scan (kf q) k i).1 M') →
    sp_X3_descend_53 (i + 2) z t p k a g i 1 M Q K111
  | 0, M, lk, hi, hk, haz, hPR, h4, h2, hlk, hQ => by
    unfold sp_X3_descend_53
    exact ⟨fun _ => hQ M Ag.refl (fun _ _ => rfl) h2, fun h => by omega⟩
  | i + 1, M, lk, hi, hk, haz, hPR, h4, h2, hlk, hQ => by
    have ft := TL_facts t ht
    obtain ⟨-, -, -, -, -, ft1, ft2, -, -, -, ft3, ft4, ft5⟩ := ft
    have hc := TL_cap ht
    unfold sp_X3_descend_53
    rw [h2]
    refine ⟨fun h => by omega, fun _ => ⟨fun h => by omega, fun _ => ⟨by omega, ?_⟩⟩⟩
    rintro M1 rfl
    have g1 : Ag (· = z) M (pI M z 2 ((lk : Int) + 1)) := (Ag.refl (S := (· = z))).pI rfl
    have e2 : gI (pI M z 2 ((lk : Int) + 1)) z 2 = ((lk + 1 : Nat) : Int) := by simp [gI_pI, gI_pL, gI_pD, gI_pR, gI_pnw, gI_pcp, gL_pI, gL_pL, gL_pD, gL_pR, gL_pnw, gL_pcp, gD_pI, gD_pL, gD_pD, gD_pR, gD_pnw, gD_pcp, gR_pI, gR_pL, gR_pD, gR_pR, gR_pnw, gR_pcp, gz_pI, gz_pL, gz_pD, gz_pR, gz_pnw, gz_pcp]
    have eo : ∀ j, j ≠ 2 → gI (pI M z 2 ((lk : Int) + 1)) z j = gI M z j := fun j hj => by simp [gI_pI, gI_pL, gI_pD, gI_pR, gI_pnw, gI_pcp, gL_pI, gL_pL, gL_pD, gL_pR, gL_pnw, gL_pcp, gD_pI, gD_pL, gD_pD, gD_pR, gD_pnw, gD_pcp, gR_pI, gR_pL, gR_pD, gR_pR, gR_pnw, gR_pcp, gz_pI, gz_pL, gz_pD, gz_pR, gz_pnw, gz_pcp, hj]
    generalize pI M z 2 ((lk : Int) + 1) = M1 at g1 e2 eo
    have hzt : ∀ b, t ≤ b → b ≤ t + 4 → ¬ b = z := fun b h1 h2 h3 => by rcases hz with rfl | rfl <;> omega
    have hza : ¬ a = z := by rcases hz with rfl | rfl <;> omega
    have P1 : PR M1 t a st sl q := hPR.frame (fun j => g1.I hza j) (fun j => g1.L hza j) (fun j => g1.D hza j) (fun i _ => g1.L (hzt _ (by omega) (by omega)) i) (fun i _ => g1.I (hzt _ (by omega) (by omega)) i) (fun i _ => g1.L (hzt _ (by omega) (by omega)) i)
    have h4' : gI M1 t 4 = (n : Nat) := by rw [g1.I (hzt _ (by omega) (by omega))]; exact h4
    refine c_keyOf (g1.k0 hk) ht ha (by rw [g1.1]; exact haz) P1 h4' hn1 hn2 (fun j hj hj2 => ?_) (fun h => absurd (by omega) h)
    obtain rfl : j = i + 1 := by omega
    unfold scan at hQ
    refine ⟨fun h => ?_, fun h => ?_⟩
    · rw [if_neg (by omega)] at hQ
      unfold sp_X3_descend_91
      refine ⟨fun _ => ?_, fun h => by omega⟩
      unfold sp_X3_descend_105
      refine ⟨by omega, ?_⟩
      rintro i4 rfl
      rw [Int.sub_zero]
      unfold sp_X3_descend_53
      exact ⟨fun h => by omega, fun _ => ⟨fun _ => hQ M1 g1 eo e2, fun h => by omega⟩⟩
    · rw [if_pos h] at hQ
      unfold sp_X3_descend_91
      refine ⟨fun h => by omega, fun _ => ?_⟩
      unfold sp_X3_descend_105
      refine ⟨by omega, ?_⟩
      rintro i4 rfl
      rw [show ((i + 1 : Nat) : Int) - 1 = ((i : Nat) : Int) by omega]
      refine c_descend_53 hz ht ha hn1 hn2 i (by omega) (g1.k0 hk) (by rw [g1.1]; exact haz) P1 h4' e2 (by have := scan_le (kf q) k i; omega) fun M' g2 o2 l2 => hQ M' (g1.trans g2) (fun j hj => (o2 j hj).trans (eo j hj)) ?_
      rw [l2]
      dsimp only
      omega
theorem dst_lt {q : Pc} {k : Int} (hq : pok q) (hp : pmo q) : dst q k < (pks q).length ∧ min (dg q k + pma q) (((pks q).length : Nat) - 1) = ((dst q k : Nat) : Int) := by
  have b := gs_bd hq.1 (k - kf q 0)
  have l := hq.1.2.1
  have hp' := hp.1
  unfold dst dg
  omega
theorem TR.agz {M M' : Im} {t z : Nat} {l : List Pc} (h : TR M t l) (ht : t ∈ TL) (hz : zT z) (g : Ag (fun b => b = z ∨ b = z + 1) M M') : TR M' t l := by
  have ft := TL_facts t ht
  obtain ⟨-, -, -, -, -, ft1, ft2, -, -, -, ft3, ft4, ft5⟩ := ft
  exact h.ag g (fun b h1 h2 h3 => by rcases hz with rfl | rfl <;> omega) (fun b hb h3 => by rcases hz with rfl | rfl <;> omega)
theorem c_descend {M : Im} {z t p lk : Nat} {k : Int} {q : Pc} {l : List Pc} {w : List Int} {Q : Int → Im → Prop} (hk : K0 ≤ gz M) (hz : zT z) (ht : t ∈ TL) (hT : TR M t l) (hl : l.length ≤ cap t) (hK : ksum l ≤ cap t) (hq : l[p]? = some q) (hok : pok q) (hpm : pmo q) (hkk : -1000000000000 ≤ k ∧ k ≤ 1000000000000)
    (hw : TW M z w) (hwl : w.length + 3 ≤ 34) (h2 : gI M z 2 = (lk : Nat)) (hlk : lk ≤ 100000)
    (hQ : ∀ M', Ag (fun b => b = z ∨ b = z + 1) M M' → (∀ j, j ≠ 1 → j ≠ 2 → gI M' z j = gI M z j) → gI M' z 2 = ((lk + (dsc q k).2 : Nat) : Int) → TW M' z (w ++ [(p : Int), dg q k, ((dsc q k).1 : Int)]) → Q ((ksum (l.take p) + (dsc q k).1 : Nat) : Int) M') : sp_X3_descend z (some t) p k M Q := by
  have hc := TL_cap ht
  have hlen := hok.1.2.1
  have kin := ksum_in hq
  unfold sp_X3_descend
  refine ⟨zT_O hz hk, t, rfl, TL_O ht hk, ?_⟩
  refine c_pieceAt hk ht hT hl (fun p' q' a hp hq' ha1 ha2 hr hPR => ⟨fun h => (by cases h), fun a2 ha2' => ?_⟩) (fun h => absurd ⟨by omega, by have := (List.getElem?_eq_some_iff.mp hq).1; omega⟩ h)
  cases ha2'
  obtain rfl : p' = p := by omega
  rw [hq] at hq'
  cases hq'
  refine c_keyOf hk ht ha1 ha2 hPR hT.1 kin hK (fun i hi hi2 => ?_) (fun h => absurd (by omega) h)
  obtain rfl : i = 0 := by omega
  have hb := hok.2.2.1 0 (by omega)
  refine ⟨iO_hi ha1 ha2, by omega, ?_⟩
  refine c_guessAway ha1 ha2 hPR hok.1 hok.2.1 (by omega) ?_
  have gb := gs_bd hok.1 (k - kf q 0)
  have hpm' := hpm
  obtain ⟨pm1, pm2⟩ := hpm'
  have hll := hok.1.2.2
  rw [hPR.1.2.1, hPR.1.2.2.2.1]
  refine ⟨by omega, by omega, c_mini ?_⟩
  obtain ⟨d1, d2⟩ := dst_lt (k := k) hok hpm
  have d2' : min (gs q (k - kf q 0) + pma q) (((pks q).length : Nat) - 1) = ((dst q k : Nat) : Int) := d2
  rw [d2']
  refine ⟨dst q k + 2, ?_⟩
  have sl := scan_le (kf q) k (dst q k)
  refine c_descend_53 hz ht ha1 kin hK (dst q k) d1 hk ha2 hPR hT.1 h2 (by omega) fun M1 g1 o1 l1 => ?_
  have w1 : TW M1 z w := by
    refine ⟨by rw [o1 1 (by omega)]; exact hw.1, fun j v hv => by rw [g1.I (by omega)]; exact hw.2 j v hv⟩
  have G1 : Ag (fun b => b = z ∨ b = z + 1) M M1 := g1.mono (fun b hb => Or.inl hb)
  refine c_tell (G1.k0 hk) hz w1 (by omega) fun M2 g2 o2 w2 => ?_
  have G2 := G1.trans g2
  refine c_tell (G2.k0 hk) hz w2 (by simp; omega) fun M3 g3 o3 w3 => ?_
  have G3 := G2.trans g3
  refine c_tell (G3.k0 hk) hz w3 (by simp; omega) fun M4 g4 o4 w4 => ?_
  have G4 := G3.trans g4
  have hza : ¬ (a = z ∨ a = z + 1) := by rcases hz with rfl | rfl <;> omega
  have e : gI M4 a 2 = (ksum (l.take p') : Nat) := by rw [G4.I hza]; exact hPR.1.2.2.1
  rw [e]
  refine ⟨by omega, ?_⟩
  have := hQ M4 G4 (fun j h1 h2 => by rw [o4 j h1, o3 j h1, o2 j h1, o1 j h2]) (by rw [o4 2 (by omega), o3 2 (by omega), o2 2 (by omega)]; exact l1) (by
    have : w ++ [(p' : Int), dg q k, ((dsc q k).1 : Int)] = w ++ [(p' : Int)] ++ [gs q (k - kf q 0)] ++ [((scan (kf q) k (dst q k)).1 : Int)] := by simp [dg, dsc]
    rw [this]; exact w4)
  rw [show ((ksum (l.take p') : Nat) : Int) + ((scan (kf q) k (dst q k)).1 : Nat) = ((ksum (l.take p') + (dsc q k).1 : Nat) : Int) by unfold dsc; omega]
  exact this
/-! the way through the layers -/
def pcD : Pc := ((0, 0, 0, 1, 0), [], [])
def pcAt (l : List Pc) (p : Nat) : Pc := l[p]?.getD pcD
def lyAt (Y : List (List Pc)) (n : Nat) : List Pc := Y[n]?.getD []
/-- told, looked at, the piece below that it leads to -/
def walk (k : Int) (Y : List (List Pc)) : Nat → Nat → List Int × Nat × Nat
  | 0, p => ([], 0, p)
  | n + 1, p => ([(p : Int), dg (pcAt (lyAt Y n) p) k, ((dsc (pcAt (lyAt Y n) p) k).1 : Int)] ++ (walk k Y n (ksum ((lyAt Y n).take p) + (dsc (pcAt (lyAt Y n) p) k).1)).1,
      (dsc (pcAt (lyAt Y n) p) k).2 + (walk k Y n (ksum ((lyAt Y n).take p) + (dsc (pcAt (lyAt Y n) p) k).1)).2.1,
      (walk k Y n (ksum ((lyAt Y n).take p) + (dsc (pcAt (lyAt Y n) p) k).1)).2.2)
/-- the way stays within the tiers -/
def wok (k : Int) (Y : List (List Pc)) (top : Nat) : Nat → Nat → Prop
  | 0, p => p < top
  | n + 1, p => p < (lyAt Y n).length ∧ wok k Y top n (ksum ((lyAt Y n).take p) + (dsc (pcAt (lyAt Y n) p) k).1)
theorem walk_len (k : Int) (Y : List (List Pc)) : ∀ n p, (walk k Y n p).1.length = 3 * n
  | 0, p => rfl
  | n + 1, p => by
    unfold walk
    dsimp only
    rw [List.length_append, walk_len k Y n]
    simp; omega
/-- what is asked of the layers, that a find may go through them -/
def LayB (Y : List (List Pc)) : Prop := ∀ i y, Y[i]? = some y → y.length ≤ cap (19 + 5 * i) ∧ ksum y ≤ cap (19 + 5 * i) ∧ ∀ q, q ∈ y → pok q ∧ pmo q
theorem Lay.agz {M M' : Im} {z : Nat} {Y : List (List Pc)} (h : Lay M Y) (hz : zT z) (g : Ag (fun b => b = z ∨ b = z + 1) M M') : Lay M' Y := by
  refine ⟨by rw [g.I (by rcases hz with rfl | rfl <;> omega)]; exact h.1, h.2.1, fun i y hy => ?_⟩
  have := (List.getElem?_eq_some_iff.mp hy).1
  have hl := h.2.1
  exact (h.2.2 i y hy).agz (UT_in (by omega)) hz g
theorem c_follow_26 {z : Nat} {k : Int} {t : Option Nat} {Y : List (List Pc)} {top : Nat} {Q : Im → Prop} {K63 : Nat → Int → Option Nat → Im → Prop} (hz : zT z) (hkk : -1000000000000 ≤ k ∧ k ≤ 1000000000000) (hB : LayB Y) :
    ∀ (n p : Nat) {M : Im} {lk : Nat} {w : List Int}, n ≤ Y.length → K0 ≤ gz M → Lay M Y → wok k Y top n p → gI M z 4 = (p : Nat) → TW M z w → w.length + 3 * n ≤ 31 → gI M z 2 = (lk : Nat) → lk + 2000 * n ≤ 90000 →
    (∀ M', Ag (fun b => b = z ∨ b = z + 1) M M' → gI M' z 3 = gI M z 3 → gI M' z 4 = ((walk k Y n p).2.2 : Nat) → gI M' z 2 = ((lk + (walk k Y n p).2.1 : Nat) : Int) → TW M' z (w ++ (walk k Y n p).1) → (walk k Y n p).2.2 < top → (walk k Y n p).2.1 ≤ 2000 * n → K63 z k t M') →
    sp_X3_follow_26 (n + 1) z k t (some 12) ((n : Int) - 1) M Q K63
  | 0, p, M, lk, w, hn, hk, hL, ho, h4, hw, hwl, h2, hlk, hQ => by
    unfold sp_X3_follow_26
    refine ⟨fun _ => hQ M Ag.refl rfl h4 h2 (by unfold walk; rw [List.append_nil]; exact hw) ho (by unfold walk; exact Nat.zero_le _), fun h => by omega⟩
  | n + 1, p, M, lk, w, hn, hk, hL, ho, h4, hw, hwl, h2, hlk, hQ => by
    have hl10 := hL.2.1
    have hy : Y[n]? = some (lyAt Y n) := by unfold lyAt; rw [List.getElem?_eq_getElem (by omega)]; rfl
    obtain ⟨b1, b2, b3⟩ := hB n _ hy
    have hp := ho.1
    have hq : (lyAt Y n)[p]? = some (pcAt (lyAt Y n) p) := by unfold pcAt; rw [List.getElem?_eq_getElem hp]; rfl
    have hmem := b3 _ (List.mem_of_getElem? hq)
    have hcap := TL_cap (UT_in (i := n) (by omega))
    unfold sp_X3_follow_26
    refine ⟨fun h => by omega, fun _ => ⟨12, rfl, iA_c hk (by decide) ⟨_, rfl⟩, fun h => ?_, fun _ => ⟨?_, ?_⟩⟩⟩
    · have : alen 12 = 10 := rfl
      omega
    · have : alen 12 = 10 := rfl
      omega
    · rw [show (((n + 1 : Nat) : Int) - 1).toNat = n by omega, UT_z (by omega)]
      rintro r2 rfl
      rw [h4]
      refine c_descend hk hz (UT_in (by omega)) (hL.2.2 n _ hy) b1 b2 hq hmem.1 hmem.2 hkk hw (by omega) h2 (by omega) fun M3 g3 o3 l3 w3 => ?_
      rintro M5 rfl
      refine ⟨by omega, ?_⟩
      rintro i6 rfl
      have g5 : Ag (fun b => b = z ∨ b = z + 1) M3 (pI M3 z 4 ((ksum ((lyAt Y n).take p) + (dsc (pcAt (lyAt Y n) p) k).1 : Nat) : Int)) := (Ag.refl (S := fun b => b = z ∨ b = z + 1)).pI (Or.inl rfl)
      have e4 : gI (pI M3 z 4 ((ksum ((lyAt Y n).take p) + (dsc (pcAt (lyAt Y n) p) k).1 : Nat) : Int)) z 4 = ((ksum ((lyAt Y n).take p) + (dsc (pcAt (lyAt Y n) p) k).1 : Nat) : Int) := by simp [gI_pI, gI_pL, gI_pD, gI_pR, gI_pnw, gI_pcp, gL_pI, gL_pL, gL_pD, gL_pR, gL_pnw, gL_pcp, gD_pI, gD_pL, gD_pD, gD_pR, gD_pnw, gD_pcp, gR_pI, gR_pL, gR_pD, gR_pR, gR_pnw, gR_pcp, gz_pI, gz_pL, gz_pD, gz_pR, gz_pnw, gz_pcp]
      have eo : ∀ j, j ≠ 4 → gI (pI M3 z 4 ((ksum ((lyAt Y n).take p) + (dsc (pcAt (lyAt Y n) p) k).1 : Nat) : Int)) z j = gI M3 z j := fun j hj => by simp [gI_pI, gI_pL, gI_pD, gI_pR, gI_pnw, gI_pcp, gL_pI, gL_pL, gL_pD, gL_pR, gL_pnw, gL_pcp, gD_pI, gD_pL, gD_pD, gD_pR, gD_pnw, gD_pcp, gR_pI, gR_pL, gR_pD, gR_pR, gR_pnw, gR_pcp, gz_pI, gz_pL, gz_pD, gz_pR, gz_pnw, gz_pcp, hj]
      have e1 : ∀ j, gI (pI M3 z 4 ((ksum ((lyAt Y n).take p) + (dsc (pcAt (lyAt Y n) p) k).1 : Nat) : Int)) (z + 1) j = gI M3 (z + 1) j := fun j => by simp only [gI_pI, gI_pL, gI_pD, gI_pR, gI_pnw, gI_pcp, gL_pI, gL_pL, gL_pD, gL_pR, gL_pnw, gL_pcp, gD_pI, gD_pL, gD_pD, gD_pR, gD_pnw, gD_pcp, gR_pI, gR_pL, gR_pD, gR_pR, gR_pnw, gR_pcp, gz_pI, gz_pL, gz_pD, gz_pR, gz_pnw, gz_pcp]; rw [if_neg (by omega)]
      generalize pI M3 z 4 ((ksum ((lyAt Y n).take p) + (dsc (pcAt (lyAt Y n) p) k).1 : Nat) : Int) = M5 at g5 e4 eo e1
      have G := g3.trans g5
      have w5 : TW M5 z (w ++ [(p : Int), dg (pcAt (lyAt Y n) p) k, ((dsc (pcAt (lyAt Y n) p) k).1 : Int)]) := ⟨by rw [eo 1 (by omega)]; exact w3.1, fun j v hv => by rw [e1]; exact w3.2 j v hv⟩
      have sl := scan_le (kf (pcAt (lyAt Y n) p)) k (dst (pcAt (lyAt Y n) p) k)
      have dl := (dst_lt (k := k) hmem.1 hmem.2).1
      have hll := hmem.1.1.2.2
      have hd2 : (dsc (pcAt (lyAt Y n) p) k).2 ≤ 600 := by unfold dsc; omega
      rw [show ((n + 1 : Nat) : Int) - 1 + -1 = (n : Int) - 1 by omega]
      refine c_follow_26 hz hkk hB n _ (lk := lk + (dsc (pcAt (lyAt Y n) p) k).2) (by omega) (G.k0 hk) (hL.agz hz G) ho.2 e4 w5 (by rw [List.length_append]; simp; omega) (by rw [eo 2 (by omega)]; exact l3) (by omega) fun M' g' a3 a4 a2 aw at' al => ?_
      refine hQ M' (G.trans g') (by rw [a3, eo 3 (by omega), o3 3 (by omega) (by omega)]) ?_ ?_ ?_ at' ?_
      · unfold walk; exact a4
      · unfold walk; dsimp only; rw [a2]; omega
      · unfold walk; dsimp only; rw [← List.append_assoc]; exact aw
      · unfold walk; dsimp only; omega
/-! the late keys, from the last one down -/
/-- where it ends, how many were looked at, whether it is there -/
def lsc (f : Nat → Int) (k : Int) : Nat → Nat × Nat × Int
  | 0 => (0, 0, 0)
  | i + 1 => if k < f i then ((lsc f k i).1, (lsc f k i).2.1 + 1, (lsc f k i).2.2) else (i + 1, 1, if f i = k then 1 else 0)
theorem lsc_le (f : Nat → Int) (k : Int) : ∀ i, (lsc f k i).1 ≤ i ∧ (lsc f k i).2.1 ≤ i ∧ ((lsc f k i).2.2 = 0 ∨ (lsc f k i).2.2 = 1)
  | 0 => ⟨Nat.le_refl _, Nat.le_refl _, Or.inl rfl⟩
  | i + 1 => by
    have := lsc_le f k i
    unfold lsc
    split
    · dsimp only; omega
    · dsimp only; refine ⟨by omega, by omega, ?_⟩; split <;> simp
theorem c_seekLate_26 {z t a st sl n : Nat} {k : Int} {q : Pc} {Q : Im → Prop} {K106 : Nat → Nat → Int → Im → Prop} (hz : zT z) (ht : t ∈ TL) (ha : 97 ≤ a) (hn1 : sl + (plt q).length ≤ n) (hn2 : n ≤ alen (t + 3)) :
    ∀ (i : Nat) {M : Im} {lk : Nat}, i ≤ (plt q).length → K0 ≤ gz M → a < gz M → PR M t a st sl q → gI M t 5 = (n : Nat) → gI M z 2 = (lk : Nat) → gI M z 3 = 0 → lk + i ≤ 200000 → (∀ M', Ag (· = z) M M' → (∀ j, j ≠ 2 → j ≠ 3 → gI M' z j = gI M z j) → gI M' z 2 = ((lk + (lsc (tf q) k i).2.1 : Nat) : Int) → gI M' z 3 = (lsc (tf q) k i).2.2 → K106 z a (lsc (tf q) k i).1 M') →
    sp_X3_seekLate_26 (i + 2) z t k a i 1 M Q K106
  | 0, M, lk, hi, hk, haz, hPR, h5, h2, h3, hlk, hQ => by
    unfold sp_X3_seekLate_26
    exact ⟨fun _ => hQ M Ag.refl (fun _ _ _ => rfl) h2 h3, fun h => by omega⟩
  | i + 1, M, lk, hi, hk, haz, hPR, h5, h2, h3, hlk, hQ => by
    have ft := TL_facts t ht
    obtain ⟨-, -, -, -, -, ft1, ft2, -, ft0, -, ft3, ft4, ft5⟩ := ft
    unfold sp_X3_seekLate_26
    rw [h2]
    refine ⟨fun h => by omega, fun _ => ⟨fun h => by omega, fun _ => ⟨by omega, ?_⟩⟩⟩
    rintro M1 rfl
    have g1 : Ag (· = z) M (pI M z 2 ((lk : Int) + 1)) := (Ag.refl (S := (· = z))).pI rfl
    have e2 : gI (pI M z 2 ((lk : Int) + 1)) z 2 = ((lk + 1 : Nat) : Int) := by simp [gI_pI, gI_pL, gI_pD, gI_pR, gI_pnw, gI_pcp, gL_pI, gL_pL, gL_pD, gL_pR, gL_pnw, gL_pcp, gD_pI, gD_pL, gD_pD, gD_pR, gD_pnw, gD_pcp, gR_pI, gR_pL, gR_pD, gR_pR, gR_pnw, gR_pcp, gz_pI, gz_pL, gz_pD, gz_pR, gz_pnw, gz_pcp]
    have eo : ∀ j, j ≠ 2 → gI (pI M z 2 ((lk : Int) + 1)) z j = gI M z j := fun j hj => by simp [gI_pI, gI_pL, gI_pD, gI_pR, gI_pnw, gI_pcp, gL_pI, gL_pL, gL_pD, gL_pR, gL_pnw, gL_pcp, gD_pI, gD_pL, gD_pD, gD_pR, gD_pnw, gD_pcp, gR_pI, gR_pL, gR_pD, gR_pR, gR_pnw, gR_pcp, gz_pI, gz_pL, gz_pD, gz_pR, gz_pnw, gz_pcp, hj]
    generalize pI M z 2 ((lk : Int) + 1) = M1 at g1 e2 eo
    refine ⟨by omega, ?_⟩
    have hzt : ∀ b, t ≤ b → b ≤ t + 4 → ¬ b = z := fun b h1 h2 h3 => by rcases hz with rfl | rfl <;> omega
    have hza : ¬ a = z := by rcases hz with rfl | rfl <;> omega
    have P1 : PR M1 t a st sl q := hPR.frame (fun j => g1.I hza j) (fun j => g1.L hza j) (fun j => g1.D hza j) (fun i _ => g1.L (hzt _ (by omega) (by omega)) i) (fun i _ => g1.I (hzt _ (by omega) (by omega)) i) (fun i _ => g1.L (hzt _ (by omega) (by omega)) i)
    refine c_lateOf (g1.k0 hk) ht ha (by rw [g1.1]; exact haz) P1 (by rw [g1.I (hzt _ (by omega) (by omega))]; exact h5) hn1 hn2 (fun j hj hj2 => ?_) (fun h => absurd (by omega) h)
    obtain rfl : j = i := by omega
    have nx : ∀ v : Int, Ag (· = z) M (pI M1 z 3 v) ∧ gI (pI M1 z 3 v) z 2 = ((lk + 1 : Nat) : Int) ∧ gI (pI M1 z 3 v) z 3 = v ∧ (∀ r, r ≠ 2 → r ≠ 3 → gI (pI M1 z 3 v) z r = gI M z r) := fun v =>
      ⟨g1.trans ((Ag.refl (S := (· = z))).pI rfl), by simp only [gI_pI, gI_pL, gI_pD, gI_pR, gI_pnw, gI_pcp, gL_pI, gL_pL, gL_pD, gL_pR, gL_pnw, gL_pcp, gD_pI, gD_pL, gD_pD, gD_pR, gD_pnw, gD_pcp, gR_pI, gR_pL, gR_pD, gR_pR, gR_pnw, gR_pcp, gz_pI, gz_pL, gz_pD, gz_pR, gz_pnw, gz_pcp]; rw [if_neg (by omega)]; exact e2, by simp [gI_pI, gI_pL, gI_pD, gI_pR, gI_pnw, gI_pcp, gL_pI, gL_pL, gL_pD, gL_pR, gL_pnw, gL_pcp, gD_pI, gD_pL, gD_pD, gD_pR, gD_pnw, gD_pcp, gR_pI, gR_pL, gR_pD, gR_pR, gR_pnw, gR_pcp, gz_pI, gz_pL, gz_pD, gz_pR, gz_pnw, gz_pcp], fun r h1 h2 => by simp only [gI_pI, gI_pL, gI_pD, gI_pR, gI_pnw, gI_pcp, gL_pI, gL_pL, gL_pD, gL_pR, gL_pnw, gL_pcp, gD_pI, gD_pL, gD_pD, gD_pR, gD_pnw, gD_pcp, gR_pI, gR_pL, gR_pD, gR_pR, gR_pnw, gR_pcp, gz_pI, gz_pL, gz_pD, gz_pR, gz_pnw, gz_pcp]; rw [if_neg (by omega)]; exact eo r h1⟩
    unfold lsc at hQ
    refine ⟨fun h => ?_, fun h => ?_⟩
    · rw [if_neg (by omega)] at hQ
      unfold sp_X3_seekLate_70
      refine ⟨fun _ => ?_, fun h => by omega⟩
      unfold sp_X3_seekLate_84
      refine ⟨by omega, ?_⟩
      rintro i4 rfl
      rw [Int.sub_zero]
      have fin : ∀ v : Int, v = (if tf q j = k then 1 else 0) → sp_X3_seekLate_26 (j + 2) z t k a ((j + 1 : Nat) : Int) 0 (pI M1 z 3 v) Q K106 := fun v hv => by
        obtain ⟨n1, n2, n3, n4⟩ := nx v
        unfold sp_X3_seekLate_26
        refine ⟨fun h => by omega, fun _ => ⟨fun _ => hQ _ n1 n4 n2 (by rw [n3]; exact hv), fun h => by omega⟩⟩
      refine ⟨fun h' => ?_, fun h' => ?_⟩
      · unfold sp_X3_seekLate_100
        rintro M5 rfl
        exact fin 0 (by rw [if_neg h'])
      · unfold sp_X3_seekLate_100
        rintro M5 rfl
        exact fin 1 (by rw [if_pos h'])
    · rw [if_pos h] at hQ
      unfold sp_X3_seekLate_70
      refine ⟨fun h => by omega, fun _ => ?_⟩
      unfold sp_X3_seekLate_84
      refine ⟨by omega, ?_⟩
      rintro i4 rfl
      rw [show ((j + 1 : Nat) : Int) - 1 = ((j : Nat) : Int) by omega]
      refine ⟨fun h' => ?_, fun h' => by omega⟩
      unfold sp_X3_seekLate_100
      rintro M5 rfl
      obtain ⟨n1, n2, n3, n4⟩ := nx 0
      have g0 : Ag (· = z) M1 (pI M1 z 3 0) := (Ag.refl (S := (· = z))).pI rfl
      have P5 : PR (pI M1 z 3 0) t a st sl q := P1.frame (fun j => g0.I hza j) (fun j => g0.L hza j) (fun j => g0.D hza j) (fun i _ => g0.L (hzt _ (by omega) (by omega)) i) (fun i _ => g0.I (hzt _ (by omega) (by omega)) i) (fun i _ => g0.L (hzt _ (by omega) (by omega)) i)
      have ls := lsc_le (tf q) k j
      refine c_seekLate_26 hz ht ha hn1 hn2 j (by omega) (n1.k0 hk) (by rw [n1.1]; exact haz) P5 (by rw [n1.I (hzt _ (by omega) (by omega))]; exact h5) n2 n3 (by omega) fun M' g' o' l' a' => hQ M' (n1.trans g') (fun r h1 h2 => (o' r h1 h2).trans (n4 r h1 h2)) (by rw [l']; dsimp only; omega) a'
theorem c_seekLate {M : Im} {z t p lk : Nat} {k : Int} {q : Pc} {l : List Pc} {Q : Im → Prop} (hk : K0 ≤ gz M) (hz : zT z) (ht : t ∈ TL) (hT : TR M t l) (hl : l.length ≤ cap t) (hTs : tsum l ≤ alen (t + 3)) (hq : l[p]? = some q) (h4 : gI M z 4 = (p : Nat)) (h2 : gI M z 2 = (lk : Nat)) (h3 : gI M z 3 = 0) (hlk : lk ≤ 100000)
    (hQ : ∀ M', Ag (· = z) M M' → (∀ j, j ≠ 2 → j ≠ 3 → j ≠ 6 → gI M' z j = gI M z j) → gI M' z 2 = ((lk + (lsc (tf q) k (plt q).length).2.1 : Nat) : Int) → gI M' z 3 = (lsc (tf q) k (plt q).length).2.2 → gI M' z 6 = ((tsum (l.take p) + (lsc (tf q) k (plt q).length).1 : Nat) : Int) → Q M') : sp_X3_seekLate z (some t) k M Q := by
  have ft := TL_facts t ht
  obtain ⟨-, -, -, -, -, ft1, ft2, -, ft0, -, ft3, ft4, ft5⟩ := ft
  have tin := tsum_in hq
  unfold sp_X3_seekLate
  refine ⟨zT_O hz hk, t, rfl, TL_O ht hk, ?_⟩
  rw [h4]
  refine c_pieceAt hk ht hT hl (fun p' q' a hp hq' ha1 ha2 hr hPR => ⟨fun h => (by cases h), fun a2 ha2' => ?_⟩) (fun h => absurd ⟨by omega, by have := (List.getElem?_eq_some_iff.mp hq).1; omega⟩ h)
  cases ha2'
  obtain rfl : p' = p := by omega
  rw [hq] at hq'
  cases hq'
  refine ⟨iO_hi ha1 ha2, ?_⟩
  rw [hPR.1.2.2.2.2.2]
  rintro i12 rfl
  refine ⟨(plt q).length + 2, ?_⟩
  have hza : ¬ a = z := by rcases hz with rfl | rfl <;> omega
  have ls := lsc_le (tf q) k (plt q).length
  refine c_seekLate_26 hz ht ha1 tin hTs (plt q).length (Nat.le_refl _) hk ha2 hPR hT.2.1 h2 h3 (by omega) fun M' g o l2 a3 => ?_
  have e : gI M' a 4 = (tsum (l.take p') : Nat) := by rw [g.I hza]; exact hPR.1.2.2.2.2.1
  rw [e]
  refine ⟨by omega, ?_⟩
  rintro M6 rfl
  refine hQ _ (g.pI rfl) (fun j h1 h2 h3 => ?_) ?_ ?_ ?_
  · simp only [gI_pI, gI_pL, gI_pD, gI_pR, gI_pnw, gI_pcp, gL_pI, gL_pL, gL_pD, gL_pR, gL_pnw, gL_pcp, gD_pI, gD_pL, gD_pD, gD_pR, gD_pnw, gD_pcp, gR_pI, gR_pL, gR_pD, gR_pR, gR_pnw, gR_pcp, gz_pI, gz_pL, gz_pD, gz_pR, gz_pnw, gz_pcp]; rw [if_neg (by omega)]; exact o j h1 h2
  · simp only [gI_pI, gI_pL, gI_pD, gI_pR, gI_pnw, gI_pcp, gL_pI, gL_pL, gL_pD, gL_pR, gL_pnw, gL_pcp, gD_pI, gD_pL, gD_pD, gD_pR, gD_pnw, gD_pcp, gR_pI, gR_pL, gR_pD, gR_pR, gR_pnw, gR_pcp, gz_pI, gz_pL, gz_pD, gz_pR, gz_pnw, gz_pcp]; rw [if_neg (by omega)]; exact l2
  · simp only [gI_pI, gI_pL, gI_pD, gI_pR, gI_pnw, gI_pcp, gL_pI, gL_pL, gL_pD, gL_pR, gL_pnw, gL_pcp, gD_pI, gD_pL, gD_pD, gD_pR, gD_pnw, gD_pcp, gR_pI, gR_pL, gR_pD, gR_pR, gR_pnw, gR_pcp, gz_pI, gz_pL, gz_pD, gz_pR, gz_pnw, gz_pcp]; rw [if_neg (by omega)]; exact a3
  · simp [gI_pI, gI_pL, gI_pD, gI_pR, gI_pnw, gI_pcp, gL_pI, gL_pL, gL_pD, gL_pR, gL_pnw, gL_pcp, gD_pI, gD_pL, gD_pD, gD_pR, gD_pnw, gD_pcp, gR_pI, gR_pL, gR_pD, gR_pR, gR_pnw, gR_pcp, gz_pI, gz_pL, gz_pD, gz_pR, gz_pnw, gz_pcp]
