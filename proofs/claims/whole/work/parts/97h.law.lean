/-! ===== the law's loop ===== -/
theorem Good.skip {n : Nat} {M : Im} (h : Good n M) (hn : n < 512) : Good (n + 1) M := by
  obtain ⟨r, E, l, Y, mk_, an, w, lk, hc, hm, hw⟩ := h
  exact Good.same hc hm hw hn
theorem i31 (x : Int32) : x.toInt < 2147483648 := by have := x.toInt_lt; omega
theorem i63 (x : Int64) : x.toInt < 9223372036854775808 := by have := x.toInt_lt; omega
theorem law_lim {x3 : Int32} {L i : Nat} (hL : L ≤ 3072) (hx : x3.toInt = 6 * (i : Int)) (h : ¬ (Int32.ofNat L - (6 : Int32)) < x3) : 6 * i + 6 ≤ L := by
  have e : (Int32.ofNat L).toInt = (L : Int) := Int32.toInt_ofNat_of_lt (by omega)
  have e2 := tsubI e (show (6 : Int32).toInt = 6 from rfl) (by omega)
  have := cnltI e2 hx h
  omega
theorem eq32 {z z' : Int32} {u u' : Int} {n : Nat} {M : Im} (e : z.toInt = u) (e' : z'.toInt = u') (h : Fin_ n u u' M) : z = z' := Int32.toInt_inj.mp (e.trans (h.1.trans e'.symm))
theorem eq64 {z z' : Int64} {u u' : Int} {n : Nat} {M : Im} (e : z.toInt = u) (e' : z'.toInt = u') (h : Fin_ n u u' M) : z = z' := Int64.toInt_inj.mp (e.trans (h.1.trans e'.symm))
set_option maxHeartbeats 4000000 in
theorem law_go {xs : Nat → Int32} {L : Nat} (hL : L ≤ 3072) : ∀ (n i : Nat) (x3 : Int32) (M : Mem), i + n = 513 → x3.toInt = 6 * (i : Int) → Good i (ab M) → wp_L_law_18 n x3 M xs L := by
  intro n
  induction n with
  | zero =>
    intro i x3 M hd hx g
    obtain ⟨r, E, l, Y, mk_, an, w, lk, hc, hm, hw⟩ := g
    have := hw.1
    omega
  | succ n ih =>
    intro i x3 M hd hx g
    unfold wp_L_law_18
    refine ⟨fun _ => trivial, fun hlt => ?_⟩
    have hlim := law_lim hL hx hlt
    have hn : i < 512 := by omega
    have b0 : inb x3 L := tinb hx (by omega)
    have b1 : inb (x3 + (1 : Int32)) L := tinb (taddI hx (show (1 : Int32).toInt = 1 from rfl) (by omega)) (by omega)
    have b2 : inb (x3 + (2 : Int32)) L := tinb (taddI hx (show (2 : Int32).toInt = 2 from rfl) (by omega)) (by omega)
    have b3 : inb (x3 + (3 : Int32)) L := tinb (taddI hx (show (3 : Int32).toInt = 3 from rfl) (by omega)) (by omega)
    have b4 : inb (x3 + (4 : Int32)) L := tinb (taddI hx (show (4 : Int32).toInt = 4 from rfl) (by omega)) (by omega)
    have b5 : inb (x3 + (5 : Int32)) L := tinb (taddI hx (show (5 : Int32).toInt = 5 from rfl) (by omega)) (by omega)
    have nx : ∀ M' : Mem, Good (i + 1) (ab M') → wp_L_law_1359 x3 M' xs L (fun (x3 : Int32) (M : Mem) => wp_L_law_18 n x3 M xs L) := by
      intro M' g'
      unfold wp_L_law_1359
      rintro i122 rfl
      exact ih (i + 1) _ M' (by omega) (by rw [taddI hx (show (6 : Int32).toInt = 6 from rfl) (by omega)]; omega) g'
    refine ⟨b0, ?_, ?_, ?_, ?_, ?_, ?_, ?_, ?_, ?_, ?_, ?_, ?_, ?_, ?_, ?_, ?_, ?_, ?_, ?_, ?_, ?_, ?_, ?_, ?_, ?_, ?_, ?_, ?_, ?_, ?_, fun _ _ _ _ _ _ _ _ _ _ _ _ _ _ _ _ _ _ _ _ _ _ _ _ _ _ _ _ _ _ => nx M (g.skip hn)⟩
    · exact fun _ => ⟨b1, b2, w_X4_load rfl (st_load g hn _) fun z u m e hq => ⟨b1, b2, w_X5_load rfl hq fun z' u' m' e' hq' => ⟨fun _ => nx m' hq'.2, fun hne => hne (eq32 e e' hq')⟩⟩⟩
    · exact fun _ => ⟨b1, b2, b3, b4, b5, w_X4_fill rfl rfl rfl (st_fill g hn _ _ _ (i31 _) (i63 _)) fun z u m e hq => ⟨b1, b2, b3, b4, b5, w_X5_fill rfl rfl rfl hq fun z' u' m' e' hq' => ⟨fun _ => nx m' hq'.2, fun hne => hne (eq32 e e' hq')⟩⟩⟩
    · exact fun _ => w_X4_wipe  (st_wipe g hn ) fun z u m e hq => w_X5_wipe  hq fun z' u' m' e' hq' => ⟨fun _ => nx m' hq'.2, fun hne => hne (eq32 e e' hq')⟩
    · exact fun _ => ⟨b1, w_X4_margin rfl (st_margin g hn _) fun z u m e hq => ⟨b1, w_X5_margin rfl hq fun z' u' m' e' hq' => ⟨fun _ => nx m' hq'.2, fun hne => hne (eq32 e e' hq')⟩⟩⟩
    · exact fun _ => ⟨b1, w_X4_few rfl (st_few g hn _) fun z u m e hq => ⟨b1, w_X5_few rfl hq fun z' u' m' e' hq' => ⟨fun _ => nx m' hq'.2, fun hne => hne (eq32 e e' hq')⟩⟩⟩
    · exact fun _ => ⟨b1, b2, b3, b4, w_X4_passes rfl rfl rfl rfl (st_passes g hn _ _ _ _) fun z u m e hq => ⟨b1, b2, b3, b4, w_X5_passes rfl rfl rfl rfl hq fun z' u' m' e' hq' => ⟨fun _ => nx m' hq'.2, fun hne => hne (eq32 e e' hq')⟩⟩⟩
    · exact fun _ => ⟨b1, b2, w_X4_span rfl rfl (st_span g hn _ _ (i31 _)) fun z u m e hq => ⟨b1, b2, w_X5_span rfl rfl hq fun z' u' m' e' hq' => ⟨fun _ => nx m' hq'.2, fun hne => hne (eq32 e e' hq')⟩⟩⟩
    · exact fun _ => ⟨b1, w_X4_build rfl (st_build g hn _) fun z u m e hq => ⟨b1, w_X5_build rfl hq fun z' u' m' e' hq' => ⟨fun _ => nx m' hq'.2, fun hne => hne (eq32 e e' hq')⟩⟩⟩
    · exact fun _ => ⟨b1, w_X4_again rfl (st_again g hn _) fun z u m e hq => ⟨b1, w_X5_again rfl hq fun z' u' m' e' hq' => ⟨fun _ => nx m' hq'.2, fun hne => hne (eq32 e e' hq')⟩⟩⟩
    · exact fun _ => w_X4_clear  (st_clear g hn ) fun z u m e hq => w_X5_clear  hq fun z' u' m' e' hq' => ⟨fun _ => nx m' hq'.2, fun hne => hne (eq32 e e' hq')⟩
    · exact fun _ => ⟨b1, w_X4_round rfl (st_round g hn _) fun z u m e hq => ⟨b1, w_X5_round rfl hq fun z' u' m' e' hq' => ⟨fun _ => nx m' hq'.2, fun hne => hne (eq32 e e' hq')⟩⟩⟩
    · exact fun _ => ⟨b1, w_X4_merge rfl (st_merge g hn _) fun z u m e hq => ⟨b1, w_X5_merge rfl hq fun z' u' m' e' hq' => ⟨fun _ => nx m' hq'.2, fun hne => hne (eq32 e e' hq')⟩⟩⟩
    · exact fun _ => ⟨b1, b2, w_X4_find rfl (st_find g hn _) fun z u m e hq => ⟨b1, b2, w_X5_find rfl hq fun z' u' m' e' hq' => ⟨fun _ => nx m' hq'.2, fun hne => hne (eq32 e e' hq')⟩⟩⟩
    · exact fun _ => ⟨b1, b2, w_X4_insert rfl (st_insert g hn _) fun z u m e hq => ⟨b1, b2, w_X5_insert rfl hq fun z' u' m' e' hq' => ⟨fun _ => nx m' hq'.2, fun hne => hne (eq32 e e' hq')⟩⟩⟩
    · exact fun _ => ⟨b1, b2, w_X4_drop rfl (st_drop g hn _) fun z u m e hq => ⟨b1, b2, w_X5_drop rfl hq fun z' u' m' e' hq' => ⟨fun _ => nx m' hq'.2, fun hne => hne (eq32 e e' hq')⟩⟩⟩
    · exact fun _ => ⟨b1, w_X4_at rfl (st_at g hn _) fun z u m e hq => ⟨b1, w_X5_at rfl hq fun z' u' m' e' hq' => ⟨fun _ => nx m' hq'.2, fun hne => hne (eq64 e e' hq')⟩⟩⟩
    · exact fun _ => ⟨b1, b2, w_X4_below rfl (st_below g hn _) fun z u m e hq => ⟨b1, b2, w_X5_below rfl hq fun z' u' m' e' hq' => ⟨fun _ => nx m' hq'.2, fun hne => hne (eq32 e e' hq')⟩⟩⟩
    · exact fun _ => ⟨b1, b2, w_X4_above rfl (st_above g hn _) fun z u m e hq => ⟨b1, b2, w_X5_above rfl hq fun z' u' m' e' hq' => ⟨fun _ => nx m' hq'.2, fun hne => hne (eq64 e e' hq')⟩⟩⟩
    · exact fun _ => ⟨b1, b2, b3, b4, w_X4_between rfl rfl (st_between g hn _ _) fun z u m e hq => ⟨b1, b2, b3, b4, w_X5_between rfl rfl hq fun z' u' m' e' hq' => ⟨fun _ => nx m' hq'.2, fun hne => hne (eq32 e e' hq')⟩⟩⟩
    · exact fun _ => w_X4_layers  (st_layers g hn ) fun z u m e hq => w_X5_layers  hq fun z' u' m' e' hq' => ⟨fun _ => nx m' hq'.2, fun hne => hne (eq32 e e' hq')⟩
    · exact fun _ => ⟨b1, w_X4_pieces rfl (st_pieces g hn _) fun z u m e hq => ⟨b1, w_X5_pieces_ rfl hq fun z' u' m' e' hq' => ⟨fun _ => nx m' hq'.2, fun hne => hne (eq32 e e' hq')⟩⟩⟩
    · exact fun _ => ⟨b1, b2, b3, w_X4_piece rfl rfl rfl (st_piece g hn _ _ _) fun z u m e hq => ⟨b1, b2, b3, w_X5_piece rfl rfl rfl hq fun z' u' m' e' hq' => ⟨fun _ => nx m' hq'.2, fun hne => hne (eq32 e e' hq')⟩⟩⟩
    · exact fun _ => ⟨b1, b2, b3, w_X4_line rfl rfl rfl (st_line g hn _ _ _) fun z u m e hq => ⟨b1, b2, b3, w_X5_line rfl rfl rfl hq fun z' u' m' e' hq' => ⟨fun _ => nx m' hq'.2, fun hne => hne (eq64 e e' hq')⟩⟩⟩
    · exact fun _ => ⟨b1, b2, b3, b4, w_X4_guess rfl rfl rfl (st_guess g hn _ _ _) fun z u m e hq => ⟨b1, b2, b3, b4, w_X5_guess rfl rfl rfl hq fun z' u' m' e' hq' => ⟨fun _ => nx m' hq'.2, fun hne => hne (eq32 e e' hq')⟩⟩⟩
    · exact fun _ => ⟨b1, b2, w_X4_bits rfl rfl (st_bits g hn _ _) fun z u m e hq => ⟨b1, b2, w_X5_bits rfl rfl hq fun z' u' m' e' hq' => ⟨fun _ => nx m' hq'.2, fun hne => hne (eq64 e e' hq')⟩⟩⟩
    · intro _
      refine ⟨b1, b2, b3, fun h0 => ?_, fun h0 => ?_⟩
      · unfold wp_L_law_1211
        refine w_X4_key rfl rfl rfl (st_key g hn _ _ _ (by decide)) fun z u m e hq => ⟨b1, b2, b3, fun h1 => ?_, fun h1 => ?_⟩
        · unfold wp_L_law_1238
          exact w_X5_key rfl rfl rfl hq fun z' u' m' e' hq' => ⟨fun _ => nx m' hq'.2, fun hne => hne (eq64 e e' hq')⟩
        · exact absurd h0 h1
      · unfold wp_L_law_1211
        refine w_X4_key rfl rfl rfl (st_key g hn _ _ _ (by decide)) fun z u m e hq => ⟨b1, b2, b3, fun h1 => ?_, fun h1 => ?_⟩
        · exact absurd h1 h0
        · unfold wp_L_law_1238
          exact w_X5_key rfl rfl rfl hq fun z' u' m' e' hq' => ⟨fun _ => nx m' hq'.2, fun hne => hne (eq64 e e' hq')⟩
    · exact fun _ => w_X4_looks  (st_looks g hn ) fun z u m e hq => w_X5_looks  hq fun z' u' m' e' hq' => ⟨fun _ => nx m' hq'.2, fun hne => hne (eq32 e e' hq')⟩
    · exact fun _ => ⟨b1, w_X4_told rfl (st_told g hn _) fun z u m e hq => ⟨b1, w_X5_told rfl hq fun z' u' m' e' hq' => ⟨fun _ => nx m' hq'.2, fun hne => hne (eq32 e e' hq')⟩⟩⟩
    · exact fun _ => ⟨b1, b2, w_X4_check rfl (st_check g hn _) fun z u m e hq => ⟨b1, b2, w_X5_check rfl hq fun z' u' m' e' hq' => ⟨fun _ => nx m' hq'.2, fun hne => hne (eq32 e e' hq')⟩⟩⟩
    · exact fun _ => ⟨b1, w_X4_count rfl (st_count g hn _) fun z u m e hq => ⟨b1, w_X5_count rfl hq fun z' u' m' e' hq' => ⟨fun _ => nx m' hq'.2, fun hne => hne (eq32 e e' hq')⟩⟩⟩
/-- WHAT WAS LEFT: the two constructors, then the law's loop -/
theorem hst_done (xs : Nat → Int32) (L : Nat) (hL : L ≤ 3072) : wp_start xs L := by
  have z : ZMAX = 6000 := rfl
  have g0 : gz (ab M00) = 0 := rfl
  have s0 : Nv (ab (nw M00)) 1 (P4 0) (· = 0) := by
    rw [ab_nw]
    refine ⟨rfl, fun a j ha hj => ?_, fun a j ha hj => ?_⟩
    · obtain rfl : a = 0 := by omega
      rw [gI_pnw, g0, if_pos rfl, ei_j 0 (fun e => hj ⟨e, rfl⟩)]
    · obtain rfl : a = 0 := by omega
      rw [gR_pnw, g0, if_pos rfl, ef0_none j (fun w => hj ⟨rfl, Nat.zero_le _, w⟩)]
  unfold wp_start
  refine w_X4_init (n_X4 (Q := fun im => Nv im 69 (fun _ _ => False) (fun _ => False)) s0 fun _ h => h) fun M2 h2 => ?_
  have e2 : mz M2 = 69 := h2.1
  rw [e2]
  refine ⟨by omega, rfl, ?_⟩
  have s1 : Nv (ab (nw M2)) 70 (P5 0) (· = 69) := by
    rw [ab_nw]
    exact (h2.weak (fun _ w => w.elim)).alloc rfl (P5 0) (fun _ _ w => w.elim) (fun k hk => ef69_none k (fun w => hk ⟨rfl, Nat.zero_le _, w⟩)) (fun k hk => ei_j 69 (fun e => hk ⟨e, rfl⟩))
  refine w_X5_init (n_X5 (Q := fun im => Nv im 97 (fun _ _ => False) (fun _ => False)) s1 fun _ h => h) fun M4 h4 => ?_
  have e4 : mz M4 = 97 := h4.1
  refine ⟨rfl, by rw [e4]; decide, fun k j a hk hz => ?_, 513, law_go hL 513 0 0 M4 rfl (by decide) (good0 h4)⟩
  rw [e4] at hk
  have hr : mR M4 k j = ef k j := h4.2.2 k j hk (fun w => w)
  rw [hr]
  have n3 : zfin 0 3 = none := rfl
  have n4 : zfin 0 4 = none := rfl
  unfold ef
  rw [if_neg (fun w => by rw [w.1, w.2, n3] at hz; cases hz), if_neg (fun w => by rw [w.1, w.2, n4] at hz; cases hz)]
  exact hz
