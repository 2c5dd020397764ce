/-! ===== gather ===== -/
theorem c_gather_85 {t : Nat} {Q K : Int → Im → Prop} (ht : t ∈ TL) : ∀ (n : Nat) (ks : List (Int × Int)) (ts : List Int) (i lp put : Nat) {M : Im}, ks.length + ts.length = n → K0 ≤ gz M → i + ks.length ≤ cap t → lp + ts.length ≤ alen (t + 3) → put + (mg ks ts).length ≤ 590 →
    (∀ j k d, ks[j]? = some (k, d) → gL M (t + 1) (i + j) = k ∧ gI M (t + 2) (i + j) = d) → (∀ j k, ts[j]? = some k → gL M (t + 3) (lp + j) = k) →
    (∀ M', Ag (· = 18) M M' → (∀ j, j < put → gL M' 18 j = gL M 18 j) → (∀ j k, (mg ks ts)[j]? = some k → gL M' 18 (put + j) = k) → K ((put + (mg ks ts).length : Nat) : Int) M') →
    sp_X2_gather_85 (n + 1) t (some 18) ((lp : Int) + ts.length) ((i : Int) + ks.length) i lp put M Q K := by
  intro n
  have ft := TL_facts t ht
  obtain ⟨-, -, -, -, -, ft1, ft2, ftc, ft0, -, ft3, ft4, ft5⟩ := ft
  have a18 : alen 18 = 600 := rfl
  induction n with
  | zero =>
    intro ks ts i lp put M hn hk hi hlp hput hks hts hQ
    obtain rfl : ks = [] := List.eq_nil_of_length_eq_zero (by omega)
    obtain rfl : ts = [] := List.eq_nil_of_length_eq_zero (by omega)
    rw [mg_nil] at hQ
    unfold sp_X2_gather_85
    refine ⟨fun h => by simp at h, fun _ => ⟨fun _ => ?_, fun h => by simp at h⟩⟩
    have := hQ M Ag.refl (fun j _ => rfl) (fun j k h => by simp at h)
    simpa using this
  | succ n ih =>
    intro ks ts i lp put M hn hk hi hlp hput hks hts hQ
    have lateStep : ∀ (t' : Int) (ts' : List Int), ts = t' :: ts' → mg ks ts = t' :: mg ks ts' →
        sp_X2_gather_138 t 18 ((lp : Int) + ts.length) ((i : Int) + ks.length) i lp put M Q (fun (x0 : Nat) (x3 : Option Nat) (x6 : Int) (x7 : Int) (x8 : Int) (x9 : Int) (x10 : Int) (M : Im) => sp_X2_gather_85 (n + 1) x0 x3 x6 x7 x8 x9 x10 M Q K) K := by
      intro t' ts' e em
      subst e
      rw [em] at hput hQ
      rw [List.length_cons] at hput hn hlp
      have h0 := hts 0 t' (by simp)
      simp only [Nat.add_zero] at h0
      unfold sp_X2_gather_138
      rw [List.length_cons, show ((lp : Nat) : Int).toNat = lp by omega, show ((put : Nat) : Int).toNat = put by omega, h0]
      refine ⟨by omega, by omega, ?_⟩
      rintro M2 rfl
      refine ⟨by omega, ?_⟩
      rintro i3 rfl
      refine ⟨by omega, ?_⟩
      rintro i4 rfl
      have g : Ag (· = 18) M (pL M 18 put t') := (Ag.refl (S := (· = 18))).pL rfl
      rw [show (put : Int) + 1 = ((put + 1 : Nat) : Int) by omega, show (lp : Int) + ((ts'.length + 1 : Nat) : Int) = ((lp + 1 : Nat) : Int) + (ts'.length : Nat) by omega, show (lp : Int) + 1 = ((lp + 1 : Nat) : Int) by omega]
      refine ih ks ts' i (lp + 1) (put + 1) (by omega) (g.k0 hk) hi (by omega) (by omega) (fun j k d hj => by rw [g.L (by omega), g.I (by omega)]; exact hks j k d hj) (fun j k hj => by rw [g.L (by omega), Nat.add_assoc, Nat.add_comm 1 j]; exact hts (j + 1) k (by simpa using hj)) fun M' g' h1 h2 => ?_
      have := hQ M' (g.trans g') (fun j hj => by rw [h1 j (by omega)]; simp only [gI_pI, gI_pL, gI_pD, gI_pR, gI_pnw, gI_pcp, gL_pI, gL_pL, gL_pD, gL_pR, gL_pnw, gL_pcp, gD_pI, gD_pL, gD_pD, gD_pR, gD_pnw, gD_pcp, gR_pI, gR_pL, gR_pD, gR_pR, gR_pnw, gR_pcp, gz_pI, gz_pL, gz_pD, gz_pR, gz_pnw, gz_pcp]; rw [if_neg (by omega)]) (fun j k hj => ?_)
      · rw [List.length_cons] at this
        rw [show put + 1 + (mg ks ts').length = put + ((mg ks ts').length + 1) by omega]
        exact this
      · cases j with
        | zero =>
          simp at hj
          subst hj
          rw [Nat.add_zero, h1 put (by omega)]
          simp [gI_pI, gI_pL, gI_pD, gI_pR, gI_pnw, gI_pcp, gL_pI, gL_pL, gL_pD, gL_pR, gL_pnw, gL_pcp, gD_pI, gD_pL, gD_pD, gD_pR, gD_pnw, gD_pcp, gR_pI, gR_pL, gR_pD, gR_pR, gR_pnw, gR_pcp, gz_pI, gz_pL, gz_pD, gz_pR, gz_pnw, gz_pcp]
        | succ j =>
          have := h2 j k (by simpa using hj)
          rw [show put + (j + 1) = put + 1 + j by omega]
          exact this
    have keyStep : ∀ (k d : Int) (ks' : List (Int × Int)), ks = (k, d) :: ks' → (mg ks ts = if d = 0 then k :: mg ks' ts else mg ks' ts) →
        sp_X2_gather_158 t 18 ((lp : Int) + ts.length) ((i : Int) + ks.length) i lp put M Q (fun (x0 : Nat) (x3 : Option Nat) (x6 : Int) (x7 : Int) (x8 : Int) (x9 : Int) (x10 : Int) (M : Im) => sp_X2_gather_85 (n + 1) x0 x3 x6 x7 x8 x9 x10 M Q K) K := by
      intro k d ks' e em
      subst e
      rw [em] at hput hQ
      rw [List.length_cons] at hn hi
      have h0 := hks 0 k d (by simp)
      simp only [Nat.add_zero] at h0
      unfold sp_X2_gather_158
      have hput' : put ≤ 590 := by omega
      rw [List.length_cons, show ((i : Nat) : Int).toNat = i by omega, show ((put : Nat) : Int).toNat = put by omega, h0.1, TL_l1 ht, TL_l2 ht]
      refine ⟨by omega, by omega, ?_⟩
      rintro M5 rfl
      have g : Ag (· = 18) M (pL M 18 put k) := (Ag.refl (S := (· = 18))).pL rfl
      rw [g.I (by omega), h0.2]
      have nx : ∀ (put' : Nat), put' + (mg ks' ts).length ≤ 590 → (∀ M', Ag (· = 18) (pL M 18 put k) M' → (∀ j, j < put' → gL M' 18 j = gL (pL M 18 put k) 18 j) → (∀ j x, (mg ks' ts)[j]? = some x → gL M' 18 (put' + j) = x) → K ((put' + (mg ks' ts).length : Nat) : Int) M') →
          sp_X2_gather_85 (n + 1) t (some 18) ((lp : Int) + ts.length) ((i : Int) + ((ks'.length + 1 : Nat) : Int)) ((i : Int) + 1) lp put' (pL M 18 put k) Q K := fun put' hp hq => by
        rw [show (i : Int) + ((ks'.length + 1 : Nat) : Int) = ((i + 1 : Nat) : Int) + (ks'.length : Nat) by omega, show (i : Int) + 1 = ((i + 1 : Nat) : Int) by omega]
        exact ih ks' ts (i + 1) lp put' (by omega) (g.k0 hk) (by omega) hlp hp (fun j x d hj => by rw [g.L (by omega), g.I (by omega), Nat.add_assoc, Nat.add_comm 1 j]; exact hks (j + 1) x d (by simpa using hj)) (fun j x hj => by rw [g.L (by omega)]; exact hts j x hj) hq
      refine ⟨by omega, fun hd => ?_, fun hd => ?_⟩
      · rw [if_pos hd] at hput hQ
        rw [List.length_cons] at hput
        unfold sp_X2_gather_186
        refine ⟨by omega, ?_⟩
        rintro i6 rfl
        refine ⟨by omega, ?_⟩
        rintro i7 rfl
        rw [show (put : Int) + 1 = ((put + 1 : Nat) : Int) by omega]
        refine nx (put + 1) (by omega) fun M' g' h1 h2 => ?_
        have := hQ M' (g.trans g') (fun j hj => by rw [h1 j (by omega)]; simp only [gI_pI, gI_pL, gI_pD, gI_pR, gI_pnw, gI_pcp, gL_pI, gL_pL, gL_pD, gL_pR, gL_pnw, gL_pcp, gD_pI, gD_pL, gD_pD, gD_pR, gD_pnw, gD_pcp, gR_pI, gR_pL, gR_pD, gR_pR, gR_pnw, gR_pcp, gz_pI, gz_pL, gz_pD, gz_pR, gz_pnw, gz_pcp]; rw [if_neg (by omega)]) (fun j x hj => ?_)
        · rw [List.length_cons] at this
          rw [show put + 1 + (mg ks' ts).length = put + ((mg ks' ts).length + 1) by omega]
          exact this
        · cases j with
          | zero =>
            simp at hj
            subst hj
            rw [Nat.add_zero, h1 put (by omega)]
            simp [gI_pI, gI_pL, gI_pD, gI_pR, gI_pnw, gI_pcp, gL_pI, gL_pL, gL_pD, gL_pR, gL_pnw, gL_pcp, gD_pI, gD_pL, gD_pD, gD_pR, gD_pnw, gD_pcp, gR_pI, gR_pL, gR_pD, gR_pR, gR_pnw, gR_pcp, gz_pI, gz_pL, gz_pD, gz_pR, gz_pnw, gz_pcp]
          | succ j =>
            have := h2 j x (by simpa using hj)
            rw [show put + (j + 1) = put + 1 + j by omega]
            exact this
      · rw [if_neg hd] at hput hQ
        unfold sp_X2_gather_186
        refine ⟨by omega, ?_⟩
        rintro i6 rfl
        refine ⟨by omega, ?_⟩
        rintro i7 rfl
        rw [show (put : Int) + 0 = (put : Int) by omega]
        refine nx put hput fun M' g' h1 h2 => hQ M' (g.trans g') (fun j hj => by rw [h1 j hj]; simp only [gI_pI, gI_pL, gI_pD, gI_pR, gI_pnw, gI_pcp, gL_pI, gL_pL, gL_pD, gL_pR, gL_pnw, gL_pcp, gD_pI, gD_pL, gD_pD, gD_pR, gD_pnw, gD_pcp, gR_pI, gR_pL, gR_pD, gR_pR, gR_pnw, gR_pcp, gz_pI, gz_pL, gz_pD, gz_pR, gz_pnw, gz_pcp]; rw [if_neg (by omega)]) h2
    have body : sp_X2_gather_99 t (some 18) ((lp : Int) + ts.length) ((i : Int) + ks.length) i lp put M Q (fun (x0 : Nat) (x3 : Option Nat) (x6 : Int) (x7 : Int) (x8 : Int) (x9 : Int) (x10 : Int) (M : Im) => sp_X2_gather_85 (n + 1) x0 x3 x6 x7 x8 x9 x10 M Q K) K := by
      unfold sp_X2_gather_99
      refine ⟨18, rfl, iA_c hk (by decide) ⟨_, rfl⟩, fun h => by omega, fun _ => ⟨fun h => ?_, fun h => ⟨fun h2 => ?_, fun h2 => ⟨by omega, by rw [TL_l1 ht]; omega, fun h3 => ?_, fun h3 => ?_⟩⟩⟩⟩
      · cases ks with
        | cons x ks' => rw [List.length_cons] at h; omega
        | nil =>
          cases ts with
          | nil => simp at hn
          | cons t' ts' => exact lateStep t' ts' rfl (by rw [mg_nil, mg_nil])
      · cases ts with
        | cons x ts' => rw [List.length_cons] at h2; omega
        | nil =>
          cases ks with
          | nil => simp at hn
          | cons x ks' =>
            obtain ⟨k, d⟩ := x
            exact keyStep k d ks' rfl (mg_cn k d ks')
      · cases ks with
        | nil => simp at h
        | cons x ks' =>
          cases ts with
          | nil => simp at h2
          | cons t' ts' =>
            obtain ⟨k, d⟩ := x
            have e1 := hks 0 k d (by simp)
            have e2 := hts 0 t' (by simp)
            simp only [Nat.add_zero] at e1 e2
            rw [show ((i : Nat) : Int).toNat = i by omega, show ((lp : Nat) : Int).toNat = lp by omega, e1.1, e2] at h3
            exact keyStep k d ks' rfl (by rw [mg_cc, if_neg (by omega)])
      · cases ks with
        | nil => simp at h
        | cons x ks' =>
          cases ts with
          | nil => simp at h2
          | cons t' ts' =>
            obtain ⟨k, d⟩ := x
            have e1 := hks 0 k d (by simp)
            have e2 := hts 0 t' (by simp)
            simp only [Nat.add_zero] at e1 e2
            rw [show ((i : Nat) : Int).toNat = i by omega, show ((lp : Nat) : Int).toNat = lp by omega, e1.1, e2] at h3
            exact lateStep t' ts' rfl (by rw [mg_cc, if_pos h3])
    unfold sp_X2_gather_85
    exact ⟨fun _ => body, fun h => ⟨fun h2 => by omega, fun _ => body⟩⟩
