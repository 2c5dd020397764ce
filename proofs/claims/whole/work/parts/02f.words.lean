/-! words, on -/
theorem k_lyX3 : ∀ w ∈ u_ws RX3 TX3 7, w ∈ W0 := z_inL (fun k hk => by
  match k, hk with
  | 0, _ => exact k_ly_X3_0
  | 1, _ => exact k_ly_X3_1
  | 2, _ => exact k_ly_X3_2
  | 3, _ => exact k_ly_X3_3
  | 4, _ => exact k_ly_X3_4
  | 5, _ => exact k_ly_X3_5
  | 6, _ => exact k_ly_X3_6
  | k + 7, h => exact absurd h (by omega))
theorem k_lyX4 : ∀ w ∈ u_ws RX4 TX4 14, w ∈ W0 := z_inL (fun k hk => by
  match k, hk with
  | 0, _ => exact k_ly_X4_0
  | 1, _ => exact k_ly_X4_1
  | 2, _ => exact k_ly_X4_2
  | 3, _ => exact k_ly_X4_3
  | 4, _ => exact k_ly_X4_4
  | 5, _ => exact k_ly_X4_5
  | 6, _ => exact k_ly_X4_6
  | 7, _ => exact k_ly_X4_7
  | 8, _ => exact k_ly_X4_8
  | 9, _ => exact k_ly_X4_9
  | 10, _ => exact k_ly_X4_10
  | 11, _ => exact k_ly_X4_11
  | 12, _ => exact k_ly_X4_12
  | 13, _ => exact k_ly_X4_13
  | k + 14, h => exact absurd h (by omega))
