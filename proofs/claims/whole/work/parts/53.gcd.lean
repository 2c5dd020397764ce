/-! ===== the common divisor, the line ===== -/
theorem half_mod {b c : Nat} (hc : 0 < c) (hb : c < b) : 2 * (b % c) < b := by
  have h1 := Nat.mod_lt b hc
  have h2 := Nat.div_add_mod b c
  have h3 : 1 ≤ b / c := Nat.div_pos (by omega) hc
  have h4 : c * 1 ≤ c * (b / c) := Nat.mul_le_mul_left c h3
  omega
theorem trem {a b : Nat} (hb : 0 < b) : (a : Int) - ((a : Int).tdiv b) * b = ((a % b : Nat) : Int) := by
  rw [Int.tdiv_eq_ediv_of_nonneg (by omega)]
  have h := Int.emod_add_mul_ediv (a : Int) b
  have h2 : ((a % b : Nat) : Int) = (a : Int) % b := by simp
  rw [h2, Int.mul_comm]
  omega
theorem tdiv_bd {a b : Nat} : 0 ≤ (a : Int).tdiv b ∧ (a : Int).tdiv b ≤ a := by
  rw [Int.tdiv_eq_ediv_of_nonneg (by omega)]
  have h : ((a / b : Nat) : Int) = (a : Int) / b := by simp
  rw [← h]
  exact ⟨Int.natCast_nonneg _, Int.ofNat_le.mpr (Nat.div_le_self a b)⟩
theorem tdivm_bd {a b : Nat} : 0 ≤ ((a : Int).tdiv b) * b ∧ ((a : Int).tdiv b) * b ≤ a := by
  rw [Int.tdiv_eq_ediv_of_nonneg (by omega)]
  have h : ((a / b * b : Nat) : Int) = (a : Int) / b * b := by simp
  rw [← h]
  exact ⟨Int.natCast_nonneg _, Int.ofNat_le.mpr (Nat.div_mul_le_self a b)⟩
theorem c_div {M : Im} {Q K : Int → Im → Prop} : ∀ (k a b i : Nat), b < 2 ^ k → a < 9000000000000000000 → i + 2 * k ≤ 100 → K (Nat.gcd a b : Nat) M → sp_X1_commonDivisor_9 (2 * k + 1) a b i M Q K
  | 0, a, b, i, hb, ha, hi, hK => by
    obtain rfl : b = 0 := by simpa using hb
    rw [Nat.gcd_zero_right] at hK
    unfold sp_X1_commonDivisor_9
    exact ⟨fun _ => hK, fun _ => ⟨fun _ => hK, fun h => absurd rfl h⟩⟩
  | k + 1, a, b, i, hb, ha, hi, hK => by
    rw [show 2 * (k + 1) + 1 = 2 * k + 1 + 1 + 1 by omega]
    unfold sp_X1_commonDivisor_9
    refine ⟨fun h => by omega, fun _ => ⟨fun h => ?_, fun h => ?_⟩⟩
    · obtain rfl : b = 0 := by omega
      rw [Nat.gcd_zero_right] at hK
      exact hK
    · have hb0 : 0 < b := by omega
      have t1 := @tdiv_bd a b
      have t2 := @tdivm_bd a b
      have t3 := @trem a b hb0
      have t4 := Nat.mod_lt a hb0
      have t5 := Nat.mod_le a b
      refine ⟨h, by omega, by omega, by omega, ?_⟩
      intro j1 hj1
      rw [t3] at hj1
      subst hj1
      refine ⟨by omega, ?_⟩
      rintro i2 rfl
      have e1 : Nat.gcd a b = Nat.gcd b (a % b) := by rw [Nat.gcd_comm a b, Nat.gcd_rec b a, Nat.gcd_comm]
      rw [e1] at hK
      unfold sp_X1_commonDivisor_9
      refine ⟨fun h => by omega, fun _ => ⟨fun h => ?_, fun h => ?_⟩⟩
      · have e2 : a % b = 0 := by omega
        rw [e2, Nat.gcd_zero_right] at hK
        exact hK
      · have hc0 : 0 < a % b := by omega
        have t6 := @tdiv_bd b (a % b)
        have t7 := @tdivm_bd b (a % b)
        have t8 := @trem b (a % b) hc0
        have t9 := half_mod hc0 t4
        have hp : 2 ^ (k + 1) = 2 * 2 ^ k := by rw [Nat.pow_succ, Nat.mul_comm]
        have hbb : b < 9000000000000000000 := by
          have : 2 ^ (k + 1) ≤ 2 ^ 50 := Nat.pow_le_pow_right (by decide) (by omega)
          have e : (2 : Nat) ^ 50 = 1125899906842624 := by decide
          omega
        refine ⟨h, by omega, by omega, by omega, ?_⟩
        intro j1 hj1
        rw [t8] at hj1
        subst hj1
        refine ⟨by omega, ?_⟩
        rintro i3 rfl
        have e3 : Nat.gcd b (a % b) = Nat.gcd (a % b) (b % (a % b)) := by rw [Nat.gcd_comm b (a % b), Nat.gcd_rec (a % b) b, Nat.gcd_comm]
        rw [e3] at hK
        have e4 : (i : Int) + 1 + 1 = ((i + 2 : Nat) : Int) := by omega
        rw [e4]
        exact c_div k (a % b) (b % (a % b)) (i + 2) (by omega) (by omega) (by omega) hK
theorem d_div {M : Im} {Q K : Int → Im → Prop} : ∀ (k a b : Nat), b < 2 ^ k → k ≤ 50 → a < 9000000000000000000 → K (Nat.gcd a b : Nat) M → sp_X5_divisor_6 (2 * k + 1) a b M Q K
  | 0, a, b, hb, hk, ha, hK => by
    obtain rfl : b = 0 := by simpa using hb
    rw [Nat.gcd_zero_right] at hK
    unfold sp_X5_divisor_6
    exact ⟨fun _ => hK, fun h => absurd rfl h⟩
  | k + 1, a, b, hb, hk, ha, hK => by
    rw [show 2 * (k + 1) + 1 = 2 * k + 1 + 1 + 1 by omega]
    unfold sp_X5_divisor_6
    refine ⟨fun h => ?_, fun h => ?_⟩
    · obtain rfl : b = 0 := by omega
      rw [Nat.gcd_zero_right] at hK
      exact hK
    · have hb0 : 0 < b := by omega
      have t1 := @tdiv_bd a b
      have t2 := @tdivm_bd a b
      have t3 := @trem a b hb0
      have t4 := Nat.mod_lt a hb0
      have t5 := Nat.mod_le a b
      refine ⟨h, by omega, by omega, by omega, ?_⟩
      intro j1 hj1
      rw [t3] at hj1
      subst hj1
      have e1 : Nat.gcd a b = Nat.gcd b (a % b) := by rw [Nat.gcd_comm a b, Nat.gcd_rec b a, Nat.gcd_comm]
      rw [e1] at hK
      unfold sp_X5_divisor_6
      refine ⟨fun h => ?_, fun h => ?_⟩
      · have e2 : a % b = 0 := by omega
        rw [e2, Nat.gcd_zero_right] at hK
        exact hK
      · have hc0 : 0 < a % b := by omega
        have t6 := @tdiv_bd b (a % b)
        have t7 := @tdivm_bd b (a % b)
        have t8 := @trem b (a % b) hc0
        have t9 := half_mod hc0 t4
        have hp : 2 ^ (k + 1) = 2 * 2 ^ k := by rw [Nat.pow_succ, Nat.mul_comm]
        have hbb : b < 9000000000000000000 := by
          have : 2 ^ (k + 1) ≤ 2 ^ 50 := Nat.pow_le_pow_right (by decide) (by omega)
          have e : (2 : Nat) ^ 50 = 1125899906842624 := by decide
          omega
        refine ⟨h, by omega, by omega, by omega, ?_⟩
        intro j1 hj1
        rw [t8] at hj1
        subst hj1
        have e3 : Nat.gcd b (a % b) = Nat.gcd (a % b) (b % (a % b)) := by rw [Nat.gcd_comm b (a % b), Nat.gcd_rec (a % b) b, Nat.gcd_comm]
        rw [e3] at hK
        exact d_div k (a % b) (b % (a % b)) (by omega) (by omega) (by omega) hK
theorem pow41 : (2 : Nat) ^ 41 = 2199023255552 := by decide
theorem c_commonDivisor {M : Im} {a b : Nat} {Q : Int → Im → Prop} (hb : b ≤ 2000000000000) (ha : a < 9000000000000000000) (hQ : Q (Nat.gcd a b : Nat) M) : sp_X1_commonDivisor a b M Q := by
  unfold sp_X1_commonDivisor
  have := pow41
  exact ⟨2 * 41 + 1, c_div 41 a b 0 (by omega) ha (by decide) hQ⟩
theorem d_divisor {M : Im} {a b : Nat} {Q : Int → Im → Prop} (hk : K0 ≤ gz M) (hb : b ≤ 2000000000000) (ha : a < 9000000000000000000) (hQ : Q (Nat.gcd a b : Nat) M) : sp_X5_divisor 69 a b M Q := by
  unfold sp_X5_divisor
  have := pow41
  exact ⟨iO_c hk (by decide) rfl, 2 * 41 + 1, d_div 41 a b (by omega) (by decide) ha hQ⟩
/-- the line of what was gathered: rise, run, height -/
def lineOf (m : Int) (f : Nat → Int) (s : St) : Int × Int × Int :=
  (s.1 / (Nat.gcd s.1.toNat s.2.1.toNat : Nat), s.2.1 / (Nat.gcd s.1.toNat s.2.1.toNat : Nat),
   (s.2.1 / (Nat.gcd s.1.toNat s.2.1.toNat : Nat)) * (s.2.2.1 - m) - (s.1 / (Nat.gcd s.1.toNat s.2.1.toNat : Nat)) * (f s.2.2.1.toNat - f 0))
