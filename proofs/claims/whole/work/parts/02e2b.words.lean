/-! words, on -/
theorem k_st_rawbits : Cond.static ⟨"java/lang/Double", "doubleToRawLongBits", "(D)J"⟩ ∈ W0 := z_in (i := 991) (by decide +kernel) (by decide +kernel)
theorem k_na_rawbits : Cond.native ⟨"java/lang/Double", "doubleToRawLongBits", "(D)J"⟩ ∈ W0 := z_in (i := 992) (by decide +kernel) (by decide +kernel)
theorem k_lc_RJxe99ae_137 : Cond.constantLong RJxe99ae 137 (9221120237041090560 : Int64) ∈ W0 := z_in (i := 993) (by decide +kernel) (by decide +kernel)
theorem k_ml_RL_132 : Cond.methodLink RL 132 yX5_key ∈ W0 := z_in (i := 994) (by decide +kernel) (by decide +kernel)
theorem k_im_yX5_key : Cond.instanceMethod yX5_key ∈ W0 := z_in (i := 995) (by decide +kernel) (by decide +kernel)
theorem k_se_yX5_key : Cond.selects RX5 yX5_key yX5_key ∈ W0 := z_in (i := 996) (by decide +kernel) (by decide +kernel)
theorem k_co_yX5_key : Cond.code yX5_key cX5_key 5 (some .long) ∈ W0 := z_in (i := 997) (by decide +kernel) (by decide +kernel)
theorem k_ml_RL_148 : Cond.methodLink RL 148 yX5_count ∈ W0 := z_in (i := 998) (by decide +kernel) (by decide +kernel)
theorem k_im_yX5_count : Cond.instanceMethod yX5_count ∈ W0 := z_in (i := 999) (by decide +kernel) (by decide +kernel)
theorem k_se_yX5_count : Cond.selects RX5 yX5_count yX5_count ∈ W0 := z_in (i := 1000) (by decide +kernel) (by decide +kernel)
theorem k_co_yX5_count : Cond.code yX5_count cX5_count 2 (some .int) ∈ W0 := z_in (i := 1001) (by decide +kernel) (by decide +kernel)
theorem k_lc_RL_13 : Cond.constantLong RL 13 (4294967295 : Int64) ∈ W0 := z_in (i := 1002) (by decide +kernel) (by decide +kernel)
theorem k_lyX0 : ∀ w ∈ u_ws RX0 TX0 11, w ∈ W0 := z_inL (fun k hk => by
  match k, hk with
  | 0, _ => exact k_ly_X0_0
  | 1, _ => exact k_ly_X0_1
  | 2, _ => exact k_ly_X0_2
  | 3, _ => exact k_ly_X0_3
  | 4, _ => exact k_ly_X0_4
  | 5, _ => exact k_ly_X0_5
  | 6, _ => exact k_ly_X0_6
  | 7, _ => exact k_ly_X0_7
  | 8, _ => exact k_ly_X0_8
  | 9, _ => exact k_ly_X0_9
  | 10, _ => exact k_ly_X0_10
  | k + 11, h => exact absurd h (by omega))
theorem k_lyX1 : ∀ w ∈ u_ws RX1 TX1 5, w ∈ W0 := z_inL (fun k hk => by
  match k, hk with
  | 0, _ => exact k_ly_X1_0
  | 1, _ => exact k_ly_X1_1
  | 2, _ => exact k_ly_X1_2
  | 3, _ => exact k_ly_X1_3
  | 4, _ => exact k_ly_X1_4
  | k + 5, h => exact absurd h (by omega))
theorem k_lyX2 : ∀ w ∈ u_ws RX2 TX2 7, w ∈ W0 := z_inL (fun k hk => by
  match k, hk with
  | 0, _ => exact k_ly_X2_0
  | 1, _ => exact k_ly_X2_1
  | 2, _ => exact k_ly_X2_2
  | 3, _ => exact k_ly_X2_3
  | 4, _ => exact k_ly_X2_4
  | 5, _ => exact k_ly_X2_5
  | 6, _ => exact k_ly_X2_6
  | k + 7, h => exact absurd h (by omega))
