/-! ===== links: what each place of a constant pool names, out of the tables ===== -/
theorem u_in_X0 : ∀ w ∈ u_ws RX0 TX0 8, w ∈ TB := by
  intro w hw
  obtain ⟨k, hk, rfl⟩ := List.mem_map.mp hw
  have hk := List.mem_range.mp hk
  match k, hk with
  | 0, _ => exact tb_mem 240 (by decide +kernel) (by decide +kernel)
  | 1, _ => exact tb_mem 242 (by decide +kernel) (by decide +kernel)
  | 2, _ => exact tb_mem 244 (by decide +kernel) (by decide +kernel)
  | 3, _ => exact tb_mem 246 (by decide +kernel) (by decide +kernel)
  | 4, _ => exact tb_mem 248 (by decide +kernel) (by decide +kernel)
  | 5, _ => exact tb_mem 250 (by decide +kernel) (by decide +kernel)
  | 6, _ => exact tb_mem 252 (by decide +kernel) (by decide +kernel)
  | 7, _ => exact tb_mem 254 (by decide +kernel) (by decide +kernel)
  | k + 8, h => exact absurd h (by omega)
theorem u_in_X1 : ∀ w ∈ u_ws RX1 TX1 8, w ∈ TB := by
  intro w hw
  obtain ⟨k, hk, rfl⟩ := List.mem_map.mp hw
  have hk := List.mem_range.mp hk
  match k, hk with
  | 0, _ => exact tb_mem 131 (by decide +kernel) (by decide +kernel)
  | 1, _ => exact tb_mem 133 (by decide +kernel) (by decide +kernel)
  | 2, _ => exact tb_mem 135 (by decide +kernel) (by decide +kernel)
  | 3, _ => exact tb_mem 137 (by decide +kernel) (by decide +kernel)
  | 4, _ => exact tb_mem 139 (by decide +kernel) (by decide +kernel)
  | 5, _ => exact tb_mem 141 (by decide +kernel) (by decide +kernel)
  | 6, _ => exact tb_mem 143 (by decide +kernel) (by decide +kernel)
  | 7, _ => exact tb_mem 145 (by decide +kernel) (by decide +kernel)
  | k + 8, h => exact absurd h (by omega)
theorem u_in_X2 : ∀ w ∈ u_ws RX2 TX2 3, w ∈ TB := by
  intro w hw
  obtain ⟨k, hk, rfl⟩ := List.mem_map.mp hw
  have hk := List.mem_range.mp hk
  match k, hk with
  | 0, _ => exact tb_mem 207 (by decide +kernel) (by decide +kernel)
  | 1, _ => exact tb_mem 209 (by decide +kernel) (by decide +kernel)
  | 2, _ => exact tb_mem 211 (by decide +kernel) (by decide +kernel)
  | k + 3, h => exact absurd h (by omega)
theorem u_in_X4 : ∀ w ∈ u_ws RX4 TX4 13, w ∈ TB := by
  intro w hw
  obtain ⟨k, hk, rfl⟩ := List.mem_map.mp hw
  have hk := List.mem_range.mp hk
  match k, hk with
  | 0, _ => exact tb_mem 562 (by decide +kernel) (by decide +kernel)
  | 1, _ => exact tb_mem 564 (by decide +kernel) (by decide +kernel)
  | 2, _ => exact tb_mem 566 (by decide +kernel) (by decide +kernel)
  | 3, _ => exact tb_mem 568 (by decide +kernel) (by decide +kernel)
  | 4, _ => exact tb_mem 570 (by decide +kernel) (by decide +kernel)
  | 5, _ => exact tb_mem 572 (by decide +kernel) (by decide +kernel)
  | 6, _ => exact tb_mem 574 (by decide +kernel) (by decide +kernel)
  | 7, _ => exact tb_mem 576 (by decide +kernel) (by decide +kernel)
  | 8, _ => exact tb_mem 578 (by decide +kernel) (by decide +kernel)
  | 9, _ => exact tb_mem 580 (by decide +kernel) (by decide +kernel)
  | 10, _ => exact tb_mem 582 (by decide +kernel) (by decide +kernel)
  | 11, _ => exact tb_mem 584 (by decide +kernel) (by decide +kernel)
  | 12, _ => exact tb_mem 586 (by decide +kernel) (by decide +kernel)
  | k + 13, h => exact absurd h (by omega)
theorem u_in_X5 : ∀ w ∈ u_ws RX5 TX5 8, w ∈ TB := by
  intro w hw
  obtain ⟨k, hk, rfl⟩ := List.mem_map.mp hw
  have hk := List.mem_range.mp hk
  match k, hk with
  | 0, _ => exact tb_mem 176 (by decide +kernel) (by decide +kernel)
  | 1, _ => exact tb_mem 178 (by decide +kernel) (by decide +kernel)
  | 2, _ => exact tb_mem 180 (by decide +kernel) (by decide +kernel)
  | 3, _ => exact tb_mem 182 (by decide +kernel) (by decide +kernel)
  | 4, _ => exact tb_mem 184 (by decide +kernel) (by decide +kernel)
  | 5, _ => exact tb_mem 186 (by decide +kernel) (by decide +kernel)
  | 6, _ => exact tb_mem 188 (by decide +kernel) (by decide +kernel)
  | 7, _ => exact tb_mem 190 (by decide +kernel) (by decide +kernel)
  | k + 8, h => exact absurd h (by omega)
theorem u_in_X6 : ∀ w ∈ u_ws RX6 TX6 2, w ∈ TB := by
  intro w hw
  obtain ⟨k, hk, rfl⟩ := List.mem_map.mp hw
  have hk := List.mem_range.mp hk
  match k, hk with
  | 0, _ => exact tb_mem 161 (by decide +kernel) (by decide +kernel)
  | 1, _ => exact tb_mem 163 (by decide +kernel) (by decide +kernel)
  | k + 2, h => exact absurd h (by omega)
theorem u_in_X7 : ∀ w ∈ u_ws RX7 TX7 9, w ∈ TB := by
  intro w hw
  obtain ⟨k, hk, rfl⟩ := List.mem_map.mp hw
  have hk := List.mem_range.mp hk
  match k, hk with
  | 0, _ => exact tb_mem 266 (by decide +kernel) (by decide +kernel)
  | 1, _ => exact tb_mem 268 (by decide +kernel) (by decide +kernel)
  | 2, _ => exact tb_mem 270 (by decide +kernel) (by decide +kernel)
  | 3, _ => exact tb_mem 272 (by decide +kernel) (by decide +kernel)
  | 4, _ => exact tb_mem 274 (by decide +kernel) (by decide +kernel)
  | 5, _ => exact tb_mem 276 (by decide +kernel) (by decide +kernel)
  | 6, _ => exact tb_mem 278 (by decide +kernel) (by decide +kernel)
  | 7, _ => exact tb_mem 280 (by decide +kernel) (by decide +kernel)
  | 8, _ => exact tb_mem 282 (by decide +kernel) (by decide +kernel)
  | k + 9, h => exact absurd h (by omega)
theorem u_in_X8 : ∀ w ∈ u_ws RX8 TX8 31, w ∈ TB := by
  intro w hw
  obtain ⟨k, hk, rfl⟩ := List.mem_map.mp hw
  have hk := List.mem_range.mp hk
  match k, hk with
  | 0, _ => exact tb_mem 824 (by decide +kernel) (by decide +kernel)
  | 1, _ => exact tb_mem 826 (by decide +kernel) (by decide +kernel)
  | 2, _ => exact tb_mem 828 (by decide +kernel) (by decide +kernel)
  | 3, _ => exact tb_mem 830 (by decide +kernel) (by decide +kernel)
  | 4, _ => exact tb_mem 832 (by decide +kernel) (by decide +kernel)
  | 5, _ => exact tb_mem 834 (by decide +kernel) (by decide +kernel)
  | 6, _ => exact tb_mem 836 (by decide +kernel) (by decide +kernel)
  | 7, _ => exact tb_mem 838 (by decide +kernel) (by decide +kernel)
  | 8, _ => exact tb_mem 840 (by decide +kernel) (by decide +kernel)
  | 9, _ => exact tb_mem 842 (by decide +kernel) (by decide +kernel)
  | 10, _ => exact tb_mem 844 (by decide +kernel) (by decide +kernel)
  | 11, _ => exact tb_mem 846 (by decide +kernel) (by decide +kernel)
  | 12, _ => exact tb_mem 848 (by decide +kernel) (by decide +kernel)
  | 13, _ => exact tb_mem 850 (by decide +kernel) (by decide +kernel)
  | 14, _ => exact tb_mem 852 (by decide +kernel) (by decide +kernel)
  | 15, _ => exact tb_mem 854 (by decide +kernel) (by decide +kernel)
  | 16, _ => exact tb_mem 856 (by decide +kernel) (by decide +kernel)
  | 17, _ => exact tb_mem 858 (by decide +kernel) (by decide +kernel)
  | 18, _ => exact tb_mem 860 (by decide +kernel) (by decide +kernel)
  | 19, _ => exact tb_mem 862 (by decide +kernel) (by decide +kernel)
  | 20, _ => exact tb_mem 864 (by decide +kernel) (by decide +kernel)
  | 21, _ => exact tb_mem 866 (by decide +kernel) (by decide +kernel)
  | 22, _ => exact tb_mem 868 (by decide +kernel) (by decide +kernel)
  | 23, _ => exact tb_mem 870 (by decide +kernel) (by decide +kernel)
  | 24, _ => exact tb_mem 872 (by decide +kernel) (by decide +kernel)
  | 25, _ => exact tb_mem 874 (by decide +kernel) (by decide +kernel)
  | 26, _ => exact tb_mem 876 (by decide +kernel) (by decide +kernel)
  | 27, _ => exact tb_mem 878 (by decide +kernel) (by decide +kernel)
  | 28, _ => exact tb_mem 880 (by decide +kernel) (by decide +kernel)
  | 29, _ => exact tb_mem 882 (by decide +kernel) (by decide +kernel)
  | 30, _ => exact tb_mem 884 (by decide +kernel) (by decide +kernel)
  | k + 31, h => exact absurd h (by omega)
theorem f_X0_9 : FL RX0 9 0 0 false := ⟨RX0, TX0, tyX0, rfl, u_in_X0, by decide, tb_mem 222 (by decide +kernel) (by decide +kernel), rfl, tyX0_ok, nmX0, fun h => absurd h (by decide), fun _ => rfl, rfl⟩
theorem f_X0_15 : FL RX0 15 0 1 true := ⟨RX0, TX0, tyX0, rfl, u_in_X0, by decide, tb_mem 225 (by decide +kernel) (by decide +kernel), rfl, tyX0_ok, nmX0, fun _ => Or.inr ⟨_, rfl⟩, fun h => absurd h (by decide), rfl⟩
theorem f_X0_19 : FL RX0 19 0 2 true := ⟨RX0, TX0, tyX0, rfl, u_in_X0, by decide, tb_mem 227 (by decide +kernel) (by decide +kernel), rfl, tyX0_ok, nmX0, fun _ => Or.inr ⟨_, rfl⟩, fun h => absurd h (by decide), rfl⟩
theorem f_X0_22 : FL RX0 22 0 3 true := ⟨RX0, TX0, tyX0, rfl, u_in_X0, by decide, tb_mem 229 (by decide +kernel) (by decide +kernel), rfl, tyX0_ok, nmX0, fun _ => Or.inr ⟨_, rfl⟩, fun h => absurd h (by decide), rfl⟩
theorem f_X0_25 : FL RX0 25 0 4 true := ⟨RX0, TX0, tyX0, rfl, u_in_X0, by decide, tb_mem 231 (by decide +kernel) (by decide +kernel), rfl, tyX0_ok, nmX0, fun _ => Or.inr ⟨_, rfl⟩, fun h => absurd h (by decide), rfl⟩
theorem f_X0_28 : FL RX0 28 0 5 true := ⟨RX0, TX0, tyX0, rfl, u_in_X0, by decide, tb_mem 233 (by decide +kernel) (by decide +kernel), rfl, tyX0_ok, nmX0, fun _ => Or.inr ⟨_, rfl⟩, fun h => absurd h (by decide), rfl⟩
theorem f_X0_31 : FL RX0 31 0 6 true := ⟨RX0, TX0, tyX0, rfl, u_in_X0, by decide, tb_mem 236 (by decide +kernel) (by decide +kernel), rfl, tyX0_ok, nmX0, fun _ => Or.inr ⟨_, rfl⟩, fun h => absurd h (by decide), rfl⟩
theorem f_X0_34 : FL RX0 34 0 7 true := ⟨RX0, TX0, tyX0, rfl, u_in_X0, by decide, tb_mem 239 (by decide +kernel) (by decide +kernel), rfl, tyX0_ok, nmX0, fun _ => Or.inr ⟨_, rfl⟩, fun h => absurd h (by decide), rfl⟩
theorem f_X0_52 : FL RX0 52 5 1 false := ⟨RX6, TX6, tyX6, rfl, u_in_X6, by decide, tb_mem 159 (by decide +kernel) (by decide +kernel), rfl, tyX6_ok, nmX6, fun h => absurd h (by decide), fun _ => rfl, rfl⟩
theorem f_X0_57 : FL RX0 57 5 0 true := ⟨RX6, TX6, tyX6, rfl, u_in_X6, by decide, tb_mem 156 (by decide +kernel) (by decide +kernel), rfl, tyX6_ok, nmX6, fun _ => Or.inr ⟨_, rfl⟩, fun h => absurd h (by decide), rfl⟩
theorem f_X1_9 : FL RX1 9 1 2 true := ⟨RX1, TX1, tyX1, rfl, u_in_X1, by decide, tb_mem 109 (by decide +kernel) (by decide +kernel), rfl, tyX1_ok, nmX1, fun _ => Or.inr ⟨_, rfl⟩, fun h => absurd h (by decide), rfl⟩
theorem f_X1_15 : FL RX1 15 1 3 true := ⟨RX1, TX1, tyX1, rfl, u_in_X1, by decide, tb_mem 113 (by decide +kernel) (by decide +kernel), rfl, tyX1_ok, nmX1, fun _ => Or.inr ⟨_, rfl⟩, fun h => absurd h (by decide), rfl⟩
theorem f_X1_18 : FL RX1 18 1 4 true := ⟨RX1, TX1, tyX1, rfl, u_in_X1, by decide, tb_mem 117 (by decide +kernel) (by decide +kernel), rfl, tyX1_ok, nmX1, fun _ => Or.inr ⟨_, rfl⟩, fun h => absurd h (by decide), rfl⟩
theorem f_X1_21 : FL RX1 21 1 5 true := ⟨RX1, TX1, tyX1, rfl, u_in_X1, by decide, tb_mem 121 (by decide +kernel) (by decide +kernel), rfl, tyX1_ok, nmX1, fun _ => Or.inr ⟨_, rfl⟩, fun h => absurd h (by decide), rfl⟩
theorem f_X1_24 : FL RX1 24 1 6 true := ⟨RX1, TX1, tyX1, rfl, u_in_X1, by decide, tb_mem 125 (by decide +kernel) (by decide +kernel), rfl, tyX1_ok, nmX1, fun _ => Or.inr ⟨_, rfl⟩, fun h => absurd h (by decide), rfl⟩
theorem f_X1_27 : FL RX1 27 1 7 true := ⟨RX1, TX1, tyX1, rfl, u_in_X1, by decide, tb_mem 128 (by decide +kernel) (by decide +kernel), rfl, tyX1_ok, nmX1, fun _ => Or.inr ⟨_, rfl⟩, fun h => absurd h (by decide), rfl⟩
theorem f_X1_30 : FL RX1 30 1 0 false := ⟨RX1, TX1, tyX1, rfl, u_in_X1, by decide, tb_mem 102 (by decide +kernel) (by decide +kernel), rfl, tyX1_ok, nmX1, fun h => absurd h (by decide), fun _ => rfl, rfl⟩
theorem f_X1_34 : FL RX1 34 1 1 false := ⟨RX1, TX1, tyX1, rfl, u_in_X1, by decide, tb_mem 106 (by decide +kernel) (by decide +kernel), rfl, tyX1_ok, nmX1, fun h => absurd h (by decide), fun _ => rfl, rfl⟩
theorem f_X2_11 : FL RX2 11 2 0 true := ⟨RX2, TX2, tyX2, rfl, u_in_X2, by decide, tb_mem 203 (by decide +kernel) (by decide +kernel), rfl, tyX2_ok, nmX2, fun _ => Or.inr ⟨_, rfl⟩, fun h => absurd h (by decide), rfl⟩
theorem f_X2_17 : FL RX2 17 2 1 false := ⟨RX2, TX2, tyX2, rfl, u_in_X2, by decide, tb_mem 204 (by decide +kernel) (by decide +kernel), rfl, tyX2_ok, nmX2, fun h => absurd h (by decide), fun _ => rfl, rfl⟩
theorem f_X2_26 : FL RX2 26 2 2 false := ⟨RX2, TX2, tyX2, rfl, u_in_X2, by decide, tb_mem 205 (by decide +kernel) (by decide +kernel), rfl, tyX2_ok, nmX2, fun h => absurd h (by decide), fun _ => rfl, rfl⟩
theorem f_X4_16 : FL RX4 16 3 0 true := ⟨RX4, TX4, tyX4, rfl, u_in_X4, by decide, tb_mem 549 (by decide +kernel) (by decide +kernel), rfl, tyX4_ok, nmX4, fun _ => Or.inl ⟨_, rfl⟩, fun h => absurd h (by decide), rfl⟩
theorem f_X4_23 : FL RX4 23 3 1 true := ⟨RX4, TX4, tyX4, rfl, u_in_X4, by decide, tb_mem 550 (by decide +kernel) (by decide +kernel), rfl, tyX4_ok, nmX4, fun _ => Or.inl ⟨_, rfl⟩, fun h => absurd h (by decide), rfl⟩
theorem f_X4_27 : FL RX4 27 3 2 true := ⟨RX4, TX4, tyX4, rfl, u_in_X4, by decide, tb_mem 551 (by decide +kernel) (by decide +kernel), rfl, tyX4_ok, nmX4, fun _ => Or.inr ⟨_, rfl⟩, fun h => absurd h (by decide), rfl⟩
theorem f_X4_31 : FL RX4 31 3 3 true := ⟨RX4, TX4, tyX4, rfl, u_in_X4, by decide, tb_mem 552 (by decide +kernel) (by decide +kernel), rfl, tyX4_ok, nmX4, fun _ => Or.inr ⟨_, rfl⟩, fun h => absurd h (by decide), rfl⟩
theorem f_X4_34 : FL RX4 34 3 4 true := ⟨RX4, TX4, tyX4, rfl, u_in_X4, by decide, tb_mem 553 (by decide +kernel) (by decide +kernel), rfl, tyX4_ok, nmX4, fun _ => Or.inr ⟨_, rfl⟩, fun h => absurd h (by decide), rfl⟩
theorem f_X4_37 : FL RX4 37 3 5 false := ⟨RX4, TX4, tyX4, rfl, u_in_X4, by decide, tb_mem 554 (by decide +kernel) (by decide +kernel), rfl, tyX4_ok, nmX4, fun _ => Or.inr ⟨_, rfl⟩, fun h => absurd h (by decide), rfl⟩
theorem f_X4_41 : FL RX4 41 3 6 false := ⟨RX4, TX4, tyX4, rfl, u_in_X4, by decide, tb_mem 555 (by decide +kernel) (by decide +kernel), rfl, tyX4_ok, nmX4, fun _ => Or.inr ⟨_, rfl⟩, fun h => absurd h (by decide), rfl⟩
theorem f_X4_58 : FL RX4 58 3 7 false := ⟨RX4, TX4, tyX4, rfl, u_in_X4, by decide, tb_mem 556 (by decide +kernel) (by decide +kernel), rfl, tyX4_ok, nmX4, fun h => absurd h (by decide), fun _ => rfl, rfl⟩
theorem f_X4_62 : FL RX4 62 3 8 false := ⟨RX4, TX4, tyX4, rfl, u_in_X4, by decide, tb_mem 557 (by decide +kernel) (by decide +kernel), rfl, tyX4_ok, nmX4, fun h => absurd h (by decide), fun _ => rfl, rfl⟩
theorem f_X4_65 : FL RX4 65 1 2 true := ⟨RX1, TX1, tyX1, rfl, u_in_X1, by decide, tb_mem 110 (by decide +kernel) (by decide +kernel), rfl, tyX1_ok, nmX1, fun _ => Or.inr ⟨_, rfl⟩, fun h => absurd h (by decide), rfl⟩
theorem f_X4_74 : FL RX4 74 1 3 true := ⟨RX1, TX1, tyX1, rfl, u_in_X1, by decide, tb_mem 114 (by decide +kernel) (by decide +kernel), rfl, tyX1_ok, nmX1, fun _ => Or.inr ⟨_, rfl⟩, fun h => absurd h (by decide), rfl⟩
theorem f_X4_77 : FL RX4 77 1 4 true := ⟨RX1, TX1, tyX1, rfl, u_in_X1, by decide, tb_mem 118 (by decide +kernel) (by decide +kernel), rfl, tyX1_ok, nmX1, fun _ => Or.inr ⟨_, rfl⟩, fun h => absurd h (by decide), rfl⟩
theorem f_X4_84 : FL RX4 84 1 5 true := ⟨RX1, TX1, tyX1, rfl, u_in_X1, by decide, tb_mem 122 (by decide +kernel) (by decide +kernel), rfl, tyX1_ok, nmX1, fun _ => Or.inr ⟨_, rfl⟩, fun h => absurd h (by decide), rfl⟩
theorem f_X4_87 : FL RX4 87 1 6 true := ⟨RX1, TX1, tyX1, rfl, u_in_X1, by decide, tb_mem 126 (by decide +kernel) (by decide +kernel), rfl, tyX1_ok, nmX1, fun _ => Or.inr ⟨_, rfl⟩, fun h => absurd h (by decide), rfl⟩
theorem f_X4_89 : FL RX4 89 3 9 false := ⟨RX4, TX4, tyX4, rfl, u_in_X4, by decide, tb_mem 558 (by decide +kernel) (by decide +kernel), rfl, tyX4_ok, nmX4, fun h => absurd h (by decide), fun _ => rfl, rfl⟩
theorem f_X4_92 : FL RX4 92 3 10 false := ⟨RX4, TX4, tyX4, rfl, u_in_X4, by decide, tb_mem 559 (by decide +kernel) (by decide +kernel), rfl, tyX4_ok, nmX4, fun h => absurd h (by decide), fun _ => rfl, rfl⟩
theorem f_X4_95 : FL RX4 95 0 0 false := ⟨RX0, TX0, tyX0, rfl, u_in_X0, by decide, tb_mem 223 (by decide +kernel) (by decide +kernel), rfl, tyX0_ok, nmX0, fun h => absurd h (by decide), fun _ => rfl, rfl⟩
theorem f_X4_103 : FL RX4 103 3 11 false := ⟨RX4, TX4, tyX4, rfl, u_in_X4, by decide, tb_mem 560 (by decide +kernel) (by decide +kernel), rfl, tyX4_ok, nmX4, fun h => absurd h (by decide), fun _ => rfl, rfl⟩
theorem f_X4_110 : FL RX4 110 0 5 true := ⟨RX0, TX0, tyX0, rfl, u_in_X0, by decide, tb_mem 234 (by decide +kernel) (by decide +kernel), rfl, tyX0_ok, nmX0, fun _ => Or.inr ⟨_, rfl⟩, fun h => absurd h (by decide), rfl⟩
theorem f_X4_113 : FL RX4 113 0 6 true := ⟨RX0, TX0, tyX0, rfl, u_in_X0, by decide, tb_mem 237 (by decide +kernel) (by decide +kernel), rfl, tyX0_ok, nmX0, fun _ => Or.inr ⟨_, rfl⟩, fun h => absurd h (by decide), rfl⟩
theorem f_X4_119 : FL RX4 119 1 1 false := ⟨RX1, TX1, tyX1, rfl, u_in_X1, by decide, tb_mem 108 (by decide +kernel) (by decide +kernel), rfl, tyX1_ok, nmX1, fun h => absurd h (by decide), fun _ => rfl, rfl⟩
theorem f_X4_122 : FL RX4 122 1 7 true := ⟨RX1, TX1, tyX1, rfl, u_in_X1, by decide, tb_mem 130 (by decide +kernel) (by decide +kernel), rfl, tyX1_ok, nmX1, fun _ => Or.inr ⟨_, rfl⟩, fun h => absurd h (by decide), rfl⟩
theorem f_X4_128 : FL RX4 128 3 12 false := ⟨RX4, TX4, tyX4, rfl, u_in_X4, by decide, tb_mem 561 (by decide +kernel) (by decide +kernel), rfl, tyX4_ok, nmX4, fun h => absurd h (by decide), fun _ => rfl, rfl⟩
theorem f_X5_9 : FL RX5 9 4 0 true := ⟨RX5, TX5, tyX5, rfl, u_in_X5, by decide, tb_mem 166 (by decide +kernel) (by decide +kernel), rfl, tyX5_ok, nmX5, fun _ => Or.inr ⟨_, rfl⟩, fun h => absurd h (by decide), rfl⟩
theorem f_X5_18 : FL RX5 18 4 2 true := ⟨RX5, TX5, tyX5, rfl, u_in_X5, by decide, tb_mem 169 (by decide +kernel) (by decide +kernel), rfl, tyX5_ok, nmX5, fun _ => Or.inl ⟨_, rfl⟩, fun h => absurd h (by decide), rfl⟩
theorem f_X5_27 : FL RX5 27 4 3 true := ⟨RX5, TX5, tyX5, rfl, u_in_X5, by decide, tb_mem 171 (by decide +kernel) (by decide +kernel), rfl, tyX5_ok, nmX5, fun _ => Or.inl ⟨_, rfl⟩, fun h => absurd h (by decide), rfl⟩
theorem f_X5_31 : FL RX5 31 4 1 false := ⟨RX5, TX5, tyX5, rfl, u_in_X5, by decide, tb_mem 167 (by decide +kernel) (by decide +kernel), rfl, tyX5_ok, nmX5, fun h => absurd h (by decide), fun _ => rfl, rfl⟩
theorem f_X5_39 : FL RX5 39 1 0 false := ⟨RX1, TX1, tyX1, rfl, u_in_X1, by decide, tb_mem 103 (by decide +kernel) (by decide +kernel), rfl, tyX1_ok, nmX1, fun h => absurd h (by decide), fun _ => rfl, rfl⟩
theorem f_X5_42 : FL RX5 42 4 7 false := ⟨RX5, TX5, tyX5, rfl, u_in_X5, by decide, tb_mem 175 (by decide +kernel) (by decide +kernel), rfl, tyX5_ok, nmX5, fun h => absurd h (by decide), fun _ => rfl, rfl⟩
theorem f_X5_48 : FL RX5 48 4 5 false := ⟨RX5, TX5, tyX5, rfl, u_in_X5, by decide, tb_mem 173 (by decide +kernel) (by decide +kernel), rfl, tyX5_ok, nmX5, fun h => absurd h (by decide), fun _ => rfl, rfl⟩
theorem f_X5_54 : FL RX5 54 4 6 false := ⟨RX5, TX5, tyX5, rfl, u_in_X5, by decide, tb_mem 174 (by decide +kernel) (by decide +kernel), rfl, tyX5_ok, nmX5, fun h => absurd h (by decide), fun _ => rfl, rfl⟩
theorem f_X5_61 : FL RX5 61 4 4 false := ⟨RX5, TX5, tyX5, rfl, u_in_X5, by decide, tb_mem 172 (by decide +kernel) (by decide +kernel), rfl, tyX5_ok, nmX5, fun h => absurd h (by decide), fun _ => rfl, rfl⟩
theorem f_X6_9 : FL RX6 9 5 0 true := ⟨RX6, TX6, tyX6, rfl, u_in_X6, by decide, tb_mem 155 (by decide +kernel) (by decide +kernel), rfl, tyX6_ok, nmX6, fun _ => Or.inr ⟨_, rfl⟩, fun h => absurd h (by decide), rfl⟩
theorem f_X6_15 : FL RX6 15 5 1 false := ⟨RX6, TX6, tyX6, rfl, u_in_X6, by decide, tb_mem 158 (by decide +kernel) (by decide +kernel), rfl, tyX6_ok, nmX6, fun h => absurd h (by decide), fun _ => rfl, rfl⟩
theorem f_X6_23 : FL RX6 23 1 0 false := ⟨RX1, TX1, tyX1, rfl, u_in_X1, by decide, tb_mem 104 (by decide +kernel) (by decide +kernel), rfl, tyX1_ok, nmX1, fun h => absurd h (by decide), fun _ => rfl, rfl⟩
theorem f_X6_32 : FL RX6 32 1 2 true := ⟨RX1, TX1, tyX1, rfl, u_in_X1, by decide, tb_mem 111 (by decide +kernel) (by decide +kernel), rfl, tyX1_ok, nmX1, fun _ => Or.inr ⟨_, rfl⟩, fun h => absurd h (by decide), rfl⟩
theorem f_X6_39 : FL RX6 39 1 4 true := ⟨RX1, TX1, tyX1, rfl, u_in_X1, by decide, tb_mem 119 (by decide +kernel) (by decide +kernel), rfl, tyX1_ok, nmX1, fun _ => Or.inr ⟨_, rfl⟩, fun h => absurd h (by decide), rfl⟩
theorem f_X6_46 : FL RX6 46 1 3 true := ⟨RX1, TX1, tyX1, rfl, u_in_X1, by decide, tb_mem 115 (by decide +kernel) (by decide +kernel), rfl, tyX1_ok, nmX1, fun _ => Or.inr ⟨_, rfl⟩, fun h => absurd h (by decide), rfl⟩
theorem f_X6_49 : FL RX6 49 1 5 true := ⟨RX1, TX1, tyX1, rfl, u_in_X1, by decide, tb_mem 123 (by decide +kernel) (by decide +kernel), rfl, tyX1_ok, nmX1, fun _ => Or.inr ⟨_, rfl⟩, fun h => absurd h (by decide), rfl⟩
theorem f_X7_10 : FL RX7 10 6 0 true := ⟨RX7, TX7, tyX7, rfl, u_in_X7, by decide, tb_mem 257 (by decide +kernel) (by decide +kernel), rfl, tyX7_ok, nmX7, fun _ => Or.inl ⟨_, rfl⟩, fun h => absurd h (by decide), rfl⟩
theorem f_X7_19 : FL RX7 19 6 1 true := ⟨RX7, TX7, tyX7, rfl, u_in_X7, by decide, tb_mem 258 (by decide +kernel) (by decide +kernel), rfl, tyX7_ok, nmX7, fun _ => Or.inl ⟨_, rfl⟩, fun h => absurd h (by decide), rfl⟩
theorem f_X7_26 : FL RX7 26 6 2 true := ⟨RX7, TX7, tyX7, rfl, u_in_X7, by decide, tb_mem 259 (by decide +kernel) (by decide +kernel), rfl, tyX7_ok, nmX7, fun _ => Or.inl ⟨_, rfl⟩, fun h => absurd h (by decide), rfl⟩
theorem f_X7_30 : FL RX7 30 6 3 true := ⟨RX7, TX7, tyX7, rfl, u_in_X7, by decide, tb_mem 260 (by decide +kernel) (by decide +kernel), rfl, tyX7_ok, nmX7, fun _ => Or.inr ⟨_, rfl⟩, fun h => absurd h (by decide), rfl⟩
theorem f_X7_39 : FL RX7 39 6 4 true := ⟨RX7, TX7, tyX7, rfl, u_in_X7, by decide, tb_mem 261 (by decide +kernel) (by decide +kernel), rfl, tyX7_ok, nmX7, fun _ => Or.inl ⟨_, rfl⟩, fun h => absurd h (by decide), rfl⟩
theorem f_X7_46 : FL RX7 46 6 5 true := ⟨RX7, TX7, tyX7, rfl, u_in_X7, by decide, tb_mem 262 (by decide +kernel) (by decide +kernel), rfl, tyX7_ok, nmX7, fun _ => Or.inl ⟨_, rfl⟩, fun h => absurd h (by decide), rfl⟩
theorem f_X7_50 : FL RX7 50 6 6 true := ⟨RX7, TX7, tyX7, rfl, u_in_X7, by decide, tb_mem 263 (by decide +kernel) (by decide +kernel), rfl, tyX7_ok, nmX7, fun _ => Or.inr ⟨_, rfl⟩, fun h => absurd h (by decide), rfl⟩
theorem f_X7_58 : FL RX7 58 4 1 false := ⟨RX5, TX5, tyX5, rfl, u_in_X5, by decide, tb_mem 168 (by decide +kernel) (by decide +kernel), rfl, tyX5_ok, nmX5, fun h => absurd h (by decide), fun _ => rfl, rfl⟩
theorem f_X7_66 : FL RX7 66 4 2 true := ⟨RX5, TX5, tyX5, rfl, u_in_X5, by decide, tb_mem 170 (by decide +kernel) (by decide +kernel), rfl, tyX5_ok, nmX5, fun _ => Or.inl ⟨_, rfl⟩, fun h => absurd h (by decide), rfl⟩
theorem f_X7_69 : FL RX7 69 1 0 false := ⟨RX1, TX1, tyX1, rfl, u_in_X1, by decide, tb_mem 105 (by decide +kernel) (by decide +kernel), rfl, tyX1_ok, nmX1, fun h => absurd h (by decide), fun _ => rfl, rfl⟩
theorem f_X7_91 : FL RX7 91 1 1 false := ⟨RX1, TX1, tyX1, rfl, u_in_X1, by decide, tb_mem 107 (by decide +kernel) (by decide +kernel), rfl, tyX1_ok, nmX1, fun h => absurd h (by decide), fun _ => rfl, rfl⟩
theorem f_X7_94 : FL RX7 94 1 7 true := ⟨RX1, TX1, tyX1, rfl, u_in_X1, by decide, tb_mem 129 (by decide +kernel) (by decide +kernel), rfl, tyX1_ok, nmX1, fun _ => Or.inr ⟨_, rfl⟩, fun h => absurd h (by decide), rfl⟩
theorem f_X7_101 : FL RX7 101 6 7 false := ⟨RX7, TX7, tyX7, rfl, u_in_X7, by decide, tb_mem 264 (by decide +kernel) (by decide +kernel), rfl, tyX7_ok, nmX7, fun h => absurd h (by decide), fun _ => rfl, rfl⟩
theorem f_X7_108 : FL RX7 108 2 2 false := ⟨RX2, TX2, tyX2, rfl, u_in_X2, by decide, tb_mem 206 (by decide +kernel) (by decide +kernel), rfl, tyX2_ok, nmX2, fun h => absurd h (by decide), fun _ => rfl, rfl⟩
theorem f_X7_111 : FL RX7 111 1 2 true := ⟨RX1, TX1, tyX1, rfl, u_in_X1, by decide, tb_mem 112 (by decide +kernel) (by decide +kernel), rfl, tyX1_ok, nmX1, fun _ => Or.inr ⟨_, rfl⟩, fun h => absurd h (by decide), rfl⟩
theorem f_X7_135 : FL RX7 135 1 3 true := ⟨RX1, TX1, tyX1, rfl, u_in_X1, by decide, tb_mem 116 (by decide +kernel) (by decide +kernel), rfl, tyX1_ok, nmX1, fun _ => Or.inr ⟨_, rfl⟩, fun h => absurd h (by decide), rfl⟩
theorem f_X7_138 : FL RX7 138 1 4 true := ⟨RX1, TX1, tyX1, rfl, u_in_X1, by decide, tb_mem 120 (by decide +kernel) (by decide +kernel), rfl, tyX1_ok, nmX1, fun _ => Or.inr ⟨_, rfl⟩, fun h => absurd h (by decide), rfl⟩
theorem f_X7_141 : FL RX7 141 1 5 true := ⟨RX1, TX1, tyX1, rfl, u_in_X1, by decide, tb_mem 124 (by decide +kernel) (by decide +kernel), rfl, tyX1_ok, nmX1, fun _ => Or.inr ⟨_, rfl⟩, fun h => absurd h (by decide), rfl⟩
theorem f_X7_144 : FL RX7 144 1 6 true := ⟨RX1, TX1, tyX1, rfl, u_in_X1, by decide, tb_mem 127 (by decide +kernel) (by decide +kernel), rfl, tyX1_ok, nmX1, fun _ => Or.inr ⟨_, rfl⟩, fun h => absurd h (by decide), rfl⟩
theorem f_X7_174 : FL RX7 174 5 0 true := ⟨RX6, TX6, tyX6, rfl, u_in_X6, by decide, tb_mem 157 (by decide +kernel) (by decide +kernel), rfl, tyX6_ok, nmX6, fun _ => Or.inr ⟨_, rfl⟩, fun h => absurd h (by decide), rfl⟩
theorem f_X7_198 : FL RX7 198 0 1 true := ⟨RX0, TX0, tyX0, rfl, u_in_X0, by decide, tb_mem 226 (by decide +kernel) (by decide +kernel), rfl, tyX0_ok, nmX0, fun _ => Or.inr ⟨_, rfl⟩, fun h => absurd h (by decide), rfl⟩
theorem f_X7_200 : FL RX7 200 0 2 true := ⟨RX0, TX0, tyX0, rfl, u_in_X0, by decide, tb_mem 228 (by decide +kernel) (by decide +kernel), rfl, tyX0_ok, nmX0, fun _ => Or.inr ⟨_, rfl⟩, fun h => absurd h (by decide), rfl⟩
theorem f_X7_203 : FL RX7 203 0 3 true := ⟨RX0, TX0, tyX0, rfl, u_in_X0, by decide, tb_mem 230 (by decide +kernel) (by decide +kernel), rfl, tyX0_ok, nmX0, fun _ => Or.inr ⟨_, rfl⟩, fun h => absurd h (by decide), rfl⟩
theorem f_X7_206 : FL RX7 206 0 4 true := ⟨RX0, TX0, tyX0, rfl, u_in_X0, by decide, tb_mem 232 (by decide +kernel) (by decide +kernel), rfl, tyX0_ok, nmX0, fun _ => Or.inr ⟨_, rfl⟩, fun h => absurd h (by decide), rfl⟩
theorem f_X7_209 : FL RX7 209 0 5 true := ⟨RX0, TX0, tyX0, rfl, u_in_X0, by decide, tb_mem 235 (by decide +kernel) (by decide +kernel), rfl, tyX0_ok, nmX0, fun _ => Or.inr ⟨_, rfl⟩, fun h => absurd h (by decide), rfl⟩
theorem f_X7_212 : FL RX7 212 0 6 true := ⟨RX0, TX0, tyX0, rfl, u_in_X0, by decide, tb_mem 238 (by decide +kernel) (by decide +kernel), rfl, tyX0_ok, nmX0, fun _ => Or.inr ⟨_, rfl⟩, fun h => absurd h (by decide), rfl⟩
theorem f_X7_231 : FL RX7 231 5 1 false := ⟨RX6, TX6, tyX6, rfl, u_in_X6, by decide, tb_mem 160 (by decide +kernel) (by decide +kernel), rfl, tyX6_ok, nmX6, fun h => absurd h (by decide), fun _ => rfl, rfl⟩
theorem f_X7_234 : FL RX7 234 0 0 false := ⟨RX0, TX0, tyX0, rfl, u_in_X0, by decide, tb_mem 224 (by decide +kernel) (by decide +kernel), rfl, tyX0_ok, nmX0, fun h => absurd h (by decide), fun _ => rfl, rfl⟩
theorem f_X7_265 : FL RX7 265 6 8 false := ⟨RX7, TX7, tyX7, rfl, u_in_X7, by decide, tb_mem 265 (by decide +kernel) (by decide +kernel), rfl, tyX7_ok, nmX7, fun _ => Or.inl ⟨_, rfl⟩, fun h => absurd h (by decide), rfl⟩
theorem f_X8_1 : FL RX8 1 7 0 false := ⟨RX8, TX8, tyX8, rfl, u_in_X8, by decide, tb_mem 793 (by decide +kernel) (by decide +kernel), rfl, tyX8_ok, nmX8, fun h => absurd h (by decide), fun _ => rfl, rfl⟩
theorem f_X8_13 : FL RX8 13 7 2 false := ⟨RX8, TX8, tyX8, rfl, u_in_X8, by decide, tb_mem 795 (by decide +kernel) (by decide +kernel), rfl, tyX8_ok, nmX8, fun h => absurd h (by decide), fun _ => rfl, rfl⟩
theorem f_X8_16 : FL RX8 16 7 1 true := ⟨RX8, TX8, tyX8, rfl, u_in_X8, by decide, tb_mem 794 (by decide +kernel) (by decide +kernel), rfl, tyX8_ok, nmX8, fun _ => Or.inr ⟨_, rfl⟩, fun h => absurd h (by decide), rfl⟩
theorem f_X8_20 : FL RX8 20 7 3 false := ⟨RX8, TX8, tyX8, rfl, u_in_X8, by decide, tb_mem 796 (by decide +kernel) (by decide +kernel), rfl, tyX8_ok, nmX8, fun h => absurd h (by decide), fun _ => rfl, rfl⟩
theorem f_X8_27 : FL RX8 27 7 4 false := ⟨RX8, TX8, tyX8, rfl, u_in_X8, by decide, tb_mem 797 (by decide +kernel) (by decide +kernel), rfl, tyX8_ok, nmX8, fun h => absurd h (by decide), fun _ => rfl, rfl⟩
theorem f_X8_30 : FL RX8 30 7 6 false := ⟨RX8, TX8, tyX8, rfl, u_in_X8, by decide, tb_mem 799 (by decide +kernel) (by decide +kernel), rfl, tyX8_ok, nmX8, fun h => absurd h (by decide), fun _ => rfl, rfl⟩
theorem f_X8_37 : FL RX8 37 7 5 false := ⟨RX8, TX8, tyX8, rfl, u_in_X8, by decide, tb_mem 798 (by decide +kernel) (by decide +kernel), rfl, tyX8_ok, nmX8, fun h => absurd h (by decide), fun _ => rfl, rfl⟩
theorem f_X8_44 : FL RX8 44 7 7 false := ⟨RX8, TX8, tyX8, rfl, u_in_X8, by decide, tb_mem 800 (by decide +kernel) (by decide +kernel), rfl, tyX8_ok, nmX8, fun h => absurd h (by decide), fun _ => rfl, rfl⟩
theorem f_X8_52 : FL RX8 52 7 15 false := ⟨RX8, TX8, tyX8, rfl, u_in_X8, by decide, tb_mem 808 (by decide +kernel) (by decide +kernel), rfl, tyX8_ok, nmX8, fun h => absurd h (by decide), fun _ => rfl, rfl⟩
theorem f_X8_55 : FL RX8 55 7 14 true := ⟨RX8, TX8, tyX8, rfl, u_in_X8, by decide, tb_mem 807 (by decide +kernel) (by decide +kernel), rfl, tyX8_ok, nmX8, fun _ => Or.inr ⟨_, rfl⟩, fun h => absurd h (by decide), rfl⟩
theorem f_X8_73 : FL RX8 73 7 17 false := ⟨RX8, TX8, tyX8, rfl, u_in_X8, by decide, tb_mem 810 (by decide +kernel) (by decide +kernel), rfl, tyX8_ok, nmX8, fun h => absurd h (by decide), fun _ => rfl, rfl⟩
theorem f_X8_76 : FL RX8 76 7 16 true := ⟨RX8, TX8, tyX8, rfl, u_in_X8, by decide, tb_mem 809 (by decide +kernel) (by decide +kernel), rfl, tyX8_ok, nmX8, fun _ => Or.inr ⟨_, rfl⟩, fun h => absurd h (by decide), rfl⟩
theorem f_X8_87 : FL RX8 87 7 8 true := ⟨RX8, TX8, tyX8, rfl, u_in_X8, by decide, tb_mem 801 (by decide +kernel) (by decide +kernel), rfl, tyX8_ok, nmX8, fun _ => Or.inr ⟨_, rfl⟩, fun h => absurd h (by decide), rfl⟩
theorem f_X8_100 : FL RX8 100 7 18 true := ⟨RX8, TX8, tyX8, rfl, u_in_X8, by decide, tb_mem 811 (by decide +kernel) (by decide +kernel), rfl, tyX8_ok, nmX8, fun _ => Or.inr ⟨_, rfl⟩, fun h => absurd h (by decide), rfl⟩
theorem f_X8_106 : FL RX8 106 7 19 true := ⟨RX8, TX8, tyX8, rfl, u_in_X8, by decide, tb_mem 812 (by decide +kernel) (by decide +kernel), rfl, tyX8_ok, nmX8, fun _ => Or.inr ⟨_, rfl⟩, fun h => absurd h (by decide), rfl⟩
theorem f_X8_109 : FL RX8 109 7 20 true := ⟨RX8, TX8, tyX8, rfl, u_in_X8, by decide, tb_mem 813 (by decide +kernel) (by decide +kernel), rfl, tyX8_ok, nmX8, fun _ => Or.inr ⟨_, rfl⟩, fun h => absurd h (by decide), rfl⟩
theorem f_X8_121 : FL RX8 121 7 9 true := ⟨RX8, TX8, tyX8, rfl, u_in_X8, by decide, tb_mem 802 (by decide +kernel) (by decide +kernel), rfl, tyX8_ok, nmX8, fun _ => Or.inr ⟨_, rfl⟩, fun h => absurd h (by decide), rfl⟩
theorem f_X8_124 : FL RX8 124 7 10 true := ⟨RX8, TX8, tyX8, rfl, u_in_X8, by decide, tb_mem 803 (by decide +kernel) (by decide +kernel), rfl, tyX8_ok, nmX8, fun _ => Or.inr ⟨_, rfl⟩, fun h => absurd h (by decide), rfl⟩
theorem f_X8_127 : FL RX8 127 7 12 true := ⟨RX8, TX8, tyX8, rfl, u_in_X8, by decide, tb_mem 805 (by decide +kernel) (by decide +kernel), rfl, tyX8_ok, nmX8, fun _ => Or.inr ⟨_, rfl⟩, fun h => absurd h (by decide), rfl⟩
theorem f_X8_131 : FL RX8 131 7 13 true := ⟨RX8, TX8, tyX8, rfl, u_in_X8, by decide, tb_mem 806 (by decide +kernel) (by decide +kernel), rfl, tyX8_ok, nmX8, fun _ => Or.inr ⟨_, rfl⟩, fun h => absurd h (by decide), rfl⟩
theorem f_X8_134 : FL RX8 134 7 21 true := ⟨RX8, TX8, tyX8, rfl, u_in_X8, by decide, tb_mem 814 (by decide +kernel) (by decide +kernel), rfl, tyX8_ok, nmX8, fun _ => Or.inr ⟨_, rfl⟩, fun h => absurd h (by decide), rfl⟩
theorem f_X8_137 : FL RX8 137 7 28 true := ⟨RX8, TX8, tyX8, rfl, u_in_X8, by decide, tb_mem 821 (by decide +kernel) (by decide +kernel), rfl, tyX8_ok, nmX8, fun _ => Or.inr ⟨_, rfl⟩, fun h => absurd h (by decide), rfl⟩
theorem f_X8_141 : FL RX8 141 7 29 true := ⟨RX8, TX8, tyX8, rfl, u_in_X8, by decide, tb_mem 822 (by decide +kernel) (by decide +kernel), rfl, tyX8_ok, nmX8, fun _ => Or.inr ⟨_, rfl⟩, fun h => absurd h (by decide), rfl⟩
theorem f_X8_180 : FL RX8 180 7 11 false := ⟨RX8, TX8, tyX8, rfl, u_in_X8, by decide, tb_mem 804 (by decide +kernel) (by decide +kernel), rfl, tyX8_ok, nmX8, fun h => absurd h (by decide), fun _ => rfl, rfl⟩
theorem f_X8_220 : FL RX8 220 7 22 false := ⟨RX8, TX8, tyX8, rfl, u_in_X8, by decide, tb_mem 815 (by decide +kernel) (by decide +kernel), rfl, tyX8_ok, nmX8, fun h => absurd h (by decide), fun _ => rfl, rfl⟩
theorem f_X8_223 : FL RX8 223 7 23 false := ⟨RX8, TX8, tyX8, rfl, u_in_X8, by decide, tb_mem 816 (by decide +kernel) (by decide +kernel), rfl, tyX8_ok, nmX8, fun h => absurd h (by decide), fun _ => rfl, rfl⟩
theorem f_X8_226 : FL RX8 226 7 24 false := ⟨RX8, TX8, tyX8, rfl, u_in_X8, by decide, tb_mem 817 (by decide +kernel) (by decide +kernel), rfl, tyX8_ok, nmX8, fun h => absurd h (by decide), fun _ => rfl, rfl⟩
theorem f_X8_229 : FL RX8 229 7 25 false := ⟨RX8, TX8, tyX8, rfl, u_in_X8, by decide, tb_mem 818 (by decide +kernel) (by decide +kernel), rfl, tyX8_ok, nmX8, fun h => absurd h (by decide), fun _ => rfl, rfl⟩
theorem f_X8_232 : FL RX8 232 7 26 false := ⟨RX8, TX8, tyX8, rfl, u_in_X8, by decide, tb_mem 819 (by decide +kernel) (by decide +kernel), rfl, tyX8_ok, nmX8, fun h => absurd h (by decide), fun _ => rfl, rfl⟩
theorem f_X8_235 : FL RX8 235 7 27 false := ⟨RX8, TX8, tyX8, rfl, u_in_X8, by decide, tb_mem 820 (by decide +kernel) (by decide +kernel), rfl, tyX8_ok, nmX8, fun h => absurd h (by decide), fun _ => rfl, rfl⟩
theorem f_X8_242 : FL RX8 242 7 30 false := ⟨RX8, TX8, tyX8, rfl, u_in_X8, by decide, tb_mem 823 (by decide +kernel) (by decide +kernel), rfl, tyX8_ok, nmX8, fun h => absurd h (by decide), fun _ => rfl, rfl⟩
theorem iz_J13 : Cond.initialized RJ13 ∈ TB := tb_mem 81 (by decide +kernel) (by decide +kernel)
theorem iz_J7 : Cond.initialized RJ7 ∈ TB := tb_mem 79 (by decide +kernel) (by decide +kernel)
theorem iz_X0 : Cond.initialized RX0 ∈ TB := tb_mem 74 (by decide +kernel) (by decide +kernel)
theorem iz_X1 : Cond.initialized RX1 ∈ TB := tb_mem 71 (by decide +kernel) (by decide +kernel)
theorem iz_X2 : Cond.initialized RX2 ∈ TB := tb_mem 73 (by decide +kernel) (by decide +kernel)
theorem iz_X3 : Cond.initialized RX3 ∈ TB := tb_mem 77 (by decide +kernel) (by decide +kernel)
theorem iz_X4 : Cond.initialized RX4 ∈ TB := tb_mem 80 (by decide +kernel) (by decide +kernel)
theorem iz_X5 : Cond.initialized RX5 ∈ TB := tb_mem 70 (by decide +kernel) (by decide +kernel)
theorem iz_X6 : Cond.initialized RX6 ∈ TB := tb_mem 72 (by decide +kernel) (by decide +kernel)
theorem iz_X7 : Cond.initialized RX7 ∈ TB := tb_mem 69 (by decide +kernel) (by decide +kernel)
theorem iz_X8 : Cond.initialized RX8 ∈ TB := tb_mem 75 (by decide +kernel) (by decide +kernel)
theorem w_X5_append : Cond.code yX5_append cX5_append 2 (some .boolean) ∈ TB := tb_mem 293 (by decide +kernel) (by decide +kernel)
theorem wi_X5_append : Cond.instanceMethod yX5_append ∈ TB := tb_mem 291 (by decide +kernel) (by decide +kernel)
theorem wx_X5_append : Cond.selects yX5_append.cls yX5_append yX5_append ∈ TB := tb_mem 292 (by decide +kernel) (by decide +kernel)
theorem w_X1_take : Cond.code yX1_take cX1_take 2 none ∈ TB := tb_mem 309 (by decide +kernel) (by decide +kernel)
theorem wi_X1_take : Cond.instanceMethod yX1_take ∈ TB := tb_mem 307 (by decide +kernel) (by decide +kernel)
theorem wx_X1_take : Cond.selects yX1_take.cls yX1_take yX1_take ∈ TB := tb_mem 308 (by decide +kernel) (by decide +kernel)
theorem w_X1_place : Cond.code yX1_place cX1_place 3 (some .int) ∈ TB := tb_mem 324 (by decide +kernel) (by decide +kernel)
theorem wi_X1_place : Cond.instanceMethod yX1_place ∈ TB := tb_mem 322 (by decide +kernel) (by decide +kernel)
theorem wx_X1_place : Cond.selects yX1_place.cls yX1_place yX1_place ∈ TB := tb_mem 323 (by decide +kernel) (by decide +kernel)
theorem w_X6_find : Cond.code yX6_find cX6_find 3 (some .int) ∈ TB := tb_mem 332 (by decide +kernel) (by decide +kernel)
theorem wi_X6_find : Cond.instanceMethod yX6_find ∈ TB := tb_mem 330 (by decide +kernel) (by decide +kernel)
theorem wx_X6_find : Cond.selects yX6_find.cls yX6_find yX6_find ∈ TB := tb_mem 331 (by decide +kernel) (by decide +kernel)
theorem w_X6_put : Cond.code yX6_put cX6_put 3 (some .boolean) ∈ TB := tb_mem 328 (by decide +kernel) (by decide +kernel)
theorem wi_X6_put : Cond.instanceMethod yX6_put ∈ TB := tb_mem 326 (by decide +kernel) (by decide +kernel)
theorem wx_X6_put : Cond.selects yX6_put.cls yX6_put yX6_put ∈ TB := tb_mem 327 (by decide +kernel) (by decide +kernel)
theorem w_X6_putWordsOf : Cond.code yX6_putWordsOf cX6_putWordsOf 5 none ∈ TB := tb_mem 320 (by decide +kernel) (by decide +kernel)
theorem wi_X6_putWordsOf : Cond.instanceMethod yX6_putWordsOf ∈ TB := tb_mem 319 (by decide +kernel) (by decide +kernel)
theorem wx_X6_putWordsOf : Cond.selects yX6_putWordsOf.cls yX6_putWordsOf yX6_putWordsOf ∈ TB := tb_mem 0 (by decide +kernel) (by decide +kernel)
theorem w_X6_gatherAll : Cond.code yX6_gatherAll cX6_gatherAll 3 none ∈ TB := tb_mem 316 (by decide +kernel) (by decide +kernel)
theorem wi_X6_gatherAll : Cond.instanceMethod yX6_gatherAll ∈ TB := tb_mem 314 (by decide +kernel) (by decide +kernel)
theorem wx_X6_gatherAll : Cond.selects yX6_gatherAll.cls yX6_gatherAll yX6_gatherAll ∈ TB := tb_mem 315 (by decide +kernel) (by decide +kernel)
theorem w_X5_advance : Cond.code yX5_advance cX5_advance 1 none ∈ TB := tb_mem 336 (by decide +kernel) (by decide +kernel)
theorem wi_X5_advance : Cond.instanceMethod yX5_advance ∈ TB := tb_mem 335 (by decide +kernel) (by decide +kernel)
theorem wx_X5_advance : Cond.selects yX5_advance.cls yX5_advance yX5_advance ∈ TB := tb_mem 1 (by decide +kernel) (by decide +kernel)
theorem w_X5_hasOpenQuery : Cond.code yX5_hasOpenQuery cX5_hasOpenQuery 1 (some .boolean) ∈ TB := tb_mem 355 (by decide +kernel) (by decide +kernel)
theorem wi_X5_hasOpenQuery : Cond.instanceMethod yX5_hasOpenQuery ∈ TB := tb_mem 354 (by decide +kernel) (by decide +kernel)
theorem wx_X5_hasOpenQuery : Cond.selects yX5_hasOpenQuery.cls yX5_hasOpenQuery yX5_hasOpenQuery ∈ TB := tb_mem 5 (by decide +kernel) (by decide +kernel)
theorem w_X1_partsOfLast : Cond.code yX1_partsOfLast cX1_partsOfLast 1 (some .int) ∈ TB := tb_mem 359 (by decide +kernel) (by decide +kernel)
theorem wi_X1_partsOfLast : Cond.instanceMethod yX1_partsOfLast ∈ TB := tb_mem 357 (by decide +kernel) (by decide +kernel)
theorem wx_X1_partsOfLast : Cond.selects yX1_partsOfLast.cls yX1_partsOfLast yX1_partsOfLast ∈ TB := tb_mem 358 (by decide +kernel) (by decide +kernel)
theorem w_X5_lacksParts : Cond.code yX5_lacksParts cX5_lacksParts 1 (some .boolean) ∈ TB := tb_mem 351 (by decide +kernel) (by decide +kernel)
theorem wi_X5_lacksParts : Cond.instanceMethod yX5_lacksParts ∈ TB := tb_mem 350 (by decide +kernel) (by decide +kernel)
theorem wx_X5_lacksParts : Cond.selects yX5_lacksParts.cls yX5_lacksParts yX5_lacksParts ∈ TB := tb_mem 4 (by decide +kernel) (by decide +kernel)
theorem w_X5_mayHavePart : Cond.code yX5_mayHavePart cX5_mayHavePart 1 (some .boolean) ∈ TB := tb_mem 375 (by decide +kernel) (by decide +kernel)
theorem wi_X5_mayHavePart : Cond.instanceMethod yX5_mayHavePart ∈ TB := tb_mem 374 (by decide +kernel) (by decide +kernel)
theorem wx_X5_mayHavePart : Cond.selects yX5_mayHavePart.cls yX5_mayHavePart yX5_mayHavePart ∈ TB := tb_mem 8 (by decide +kernel) (by decide +kernel)
theorem w_X5_readWord : Cond.code yX5_readWord cX5_readWord 3 (some .int) ∈ TB := tb_mem 379 (by decide +kernel) (by decide +kernel)
theorem wi_X5_readWord : Cond.instanceMethod yX5_readWord ∈ TB := tb_mem 378 (by decide +kernel) (by decide +kernel)
theorem wx_X5_readWord : Cond.selects yX5_readWord.cls yX5_readWord yX5_readWord ∈ TB := tb_mem 9 (by decide +kernel) (by decide +kernel)
theorem w_X1_addPart : Cond.code yX1_addPart cX1_addPart 6 none ∈ TB := tb_mem 393 (by decide +kernel) (by decide +kernel)
theorem wi_X1_addPart : Cond.instanceMethod yX1_addPart ∈ TB := tb_mem 391 (by decide +kernel) (by decide +kernel)
theorem wx_X1_addPart : Cond.selects yX1_addPart.cls yX1_addPart yX1_addPart ∈ TB := tb_mem 392 (by decide +kernel) (by decide +kernel)
theorem w_X5_readStop : Cond.code yX5_readStop cX5_readStop 1 (some .boolean) ∈ TB := tb_mem 367 (by decide +kernel) (by decide +kernel)
theorem wi_X5_readStop : Cond.instanceMethod yX5_readStop ∈ TB := tb_mem 366 (by decide +kernel) (by decide +kernel)
theorem wx_X5_readStop : Cond.selects yX5_readStop.cls yX5_readStop yX5_readStop ∈ TB := tb_mem 6 (by decide +kernel) (by decide +kernel)
theorem w_X5_readPart : Cond.code yX5_readPart cX5_readPart 3 (some .boolean) ∈ TB := tb_mem 371 (by decide +kernel) (by decide +kernel)
theorem wi_X5_readPart : Cond.instanceMethod yX5_readPart ∈ TB := tb_mem 370 (by decide +kernel) (by decide +kernel)
theorem wx_X5_readPart : Cond.selects yX5_readPart.cls yX5_readPart yX5_readPart ∈ TB := tb_mem 7 (by decide +kernel) (by decide +kernel)
theorem w_X1_lastHasNear : Cond.code yX1_lastHasNear cX1_lastHasNear 2 (some .boolean) ∈ TB := tb_mem 403 (by decide +kernel) (by decide +kernel)
theorem wi_X1_lastHasNear : Cond.instanceMethod yX1_lastHasNear ∈ TB := tb_mem 401 (by decide +kernel) (by decide +kernel)
theorem wx_X1_lastHasNear : Cond.selects yX1_lastHasNear.cls yX1_lastHasNear yX1_lastHasNear ∈ TB := tb_mem 402 (by decide +kernel) (by decide +kernel)
theorem w_X5_readNear : Cond.code yX5_readNear cX5_readNear 3 (some .boolean) ∈ TB := tb_mem 399 (by decide +kernel) (by decide +kernel)
theorem wi_X5_readNear : Cond.instanceMethod yX5_readNear ∈ TB := tb_mem 398 (by decide +kernel) (by decide +kernel)
theorem wx_X5_readNear : Cond.selects yX5_readNear.cls yX5_readNear yX5_readNear ∈ TB := tb_mem 10 (by decide +kernel) (by decide +kernel)
theorem w_X1_startQuery : Cond.code yX1_startQuery cX1_startQuery 1 (some .boolean) ∈ TB := tb_mem 363 (by decide +kernel) (by decide +kernel)
theorem wi_X1_startQuery : Cond.instanceMethod yX1_startQuery ∈ TB := tb_mem 361 (by decide +kernel) (by decide +kernel)
theorem wx_X1_startQuery : Cond.selects yX1_startQuery.cls yX1_startQuery yX1_startQuery ∈ TB := tb_mem 362 (by decide +kernel) (by decide +kernel)
theorem w_X5_readQuery : Cond.code yX5_readQuery cX5_readQuery 1 (some .boolean) ∈ TB := tb_mem 347 (by decide +kernel) (by decide +kernel)
theorem wi_X5_readQuery : Cond.instanceMethod yX5_readQuery ∈ TB := tb_mem 346 (by decide +kernel) (by decide +kernel)
theorem wx_X5_readQuery : Cond.selects yX5_readQuery.cls yX5_readQuery yX5_readQuery ∈ TB := tb_mem 3 (by decide +kernel) (by decide +kernel)
theorem w_X5_readItem : Cond.code yX5_readItem cX5_readItem 1 (some .boolean) ∈ TB := tb_mem 343 (by decide +kernel) (by decide +kernel)
theorem wi_X5_readItem : Cond.instanceMethod yX5_readItem ∈ TB := tb_mem 342 (by decide +kernel) (by decide +kernel)
theorem wx_X5_readItem : Cond.selects yX5_readItem.cls yX5_readItem yX5_readItem ∈ TB := tb_mem 2 (by decide +kernel) (by decide +kernel)
theorem w_X5_readBehind : Cond.code yX5_readBehind cX5_readBehind 3 (some .int) ∈ TB := tb_mem 305 (by decide +kernel) (by decide +kernel)
theorem wi_X5_readBehind : Cond.instanceMethod yX5_readBehind ∈ TB := tb_mem 303 (by decide +kernel) (by decide +kernel)
theorem wx_X5_readBehind : Cond.selects yX5_readBehind.cls yX5_readBehind yX5_readBehind ∈ TB := tb_mem 304 (by decide +kernel) (by decide +kernel)
theorem w_X2_push : Cond.code yX2_push cX2_push 3 none ∈ TB := tb_mem 407 (by decide +kernel) (by decide +kernel)
theorem wi_X2_push : Cond.instanceMethod yX2_push ∈ TB := tb_mem 405 (by decide +kernel) (by decide +kernel)
theorem wx_X2_push : Cond.selects yX2_push.cls yX2_push yX2_push ∈ TB := tb_mem 406 (by decide +kernel) (by decide +kernel)
theorem w_X0_link : Cond.code yX0_link cX0_link 5 none ∈ TB := tb_mem 449 (by decide +kernel) (by decide +kernel)
theorem wi_X0_link : Cond.instanceMethod yX0_link ∈ TB := tb_mem 448 (by decide +kernel) (by decide +kernel)
theorem wx_X0_link : Cond.selects yX0_link.cls yX0_link yX0_link ∈ TB := tb_mem 14 (by decide +kernel) (by decide +kernel)
theorem w_X0_addNode : Cond.code yX0_addNode cX0_addNode 4 none ∈ TB := tb_mem 445 (by decide +kernel) (by decide +kernel)
theorem wi_X0_addNode : Cond.instanceMethod yX0_addNode ∈ TB := tb_mem 444 (by decide +kernel) (by decide +kernel)
theorem wx_X0_addNode : Cond.selects yX0_addNode.cls yX0_addNode yX0_addNode ∈ TB := tb_mem 13 (by decide +kernel) (by decide +kernel)
theorem w_X0_growTo : Cond.code yX0_growTo cX0_growTo 7 none ∈ TB := tb_mem 429 (by decide +kernel) (by decide +kernel)
theorem wi_X0_growTo : Cond.instanceMethod yX0_growTo ∈ TB := tb_mem 428 (by decide +kernel) (by decide +kernel)
theorem wx_X0_growTo : Cond.selects yX0_growTo.cls yX0_growTo yX0_growTo ∈ TB := tb_mem 12 (by decide +kernel) (by decide +kernel)
theorem w_X0_build : Cond.code yX0_build cX0_build 3 none ∈ TB := tb_mem 422 (by decide +kernel) (by decide +kernel)
theorem wi_X0_build : Cond.instanceMethod yX0_build ∈ TB := tb_mem 420 (by decide +kernel) (by decide +kernel)
theorem wx_X0_build : Cond.selects yX0_build.cls yX0_build yX0_build ∈ TB := tb_mem 421 (by decide +kernel) (by decide +kernel)
theorem w_X7_walk : Cond.code yX7_walk cX7_walk 4 none ∈ TB := tb_mem 453 (by decide +kernel) (by decide +kernel)
theorem wi_X7_walk : Cond.instanceMethod yX7_walk ∈ TB := tb_mem 452 (by decide +kernel) (by decide +kernel)
theorem wx_X7_walk : Cond.selects yX7_walk.cls yX7_walk yX7_walk ∈ TB := tb_mem 15 (by decide +kernel) (by decide +kernel)
theorem w_X7_rebuild : Cond.code yX7_rebuild cX7_rebuild 1 none ∈ TB := tb_mem 417 (by decide +kernel) (by decide +kernel)
theorem wi_X7_rebuild : Cond.instanceMethod yX7_rebuild ∈ TB := tb_mem 416 (by decide +kernel) (by decide +kernel)
theorem wx_X7_rebuild : Cond.selects yX7_rebuild.cls yX7_rebuild yX7_rebuild ∈ TB := tb_mem 11 (by decide +kernel) (by decide +kernel)
theorem w_X7_isQuery : Cond.code yX7_isQuery cX7_isQuery 2 (some .boolean) ∈ TB := tb_mem 464 (by decide +kernel) (by decide +kernel)
theorem wi_X7_isQuery : Cond.instanceMethod yX7_isQuery ∈ TB := tb_mem 463 (by decide +kernel) (by decide +kernel)
theorem wx_X7_isQuery : Cond.selects yX7_isQuery.cls yX7_isQuery yX7_isQuery ∈ TB := tb_mem 16 (by decide +kernel) (by decide +kernel)
theorem w_X1_movePart : Cond.code yX1_movePart cX1_movePart 3 none ∈ TB := tb_mem 472 (by decide +kernel) (by decide +kernel)
theorem wi_X1_movePart : Cond.instanceMethod yX1_movePart ∈ TB := tb_mem 471 (by decide +kernel) (by decide +kernel)
theorem wx_X1_movePart : Cond.selects yX1_movePart.cls yX1_movePart yX1_movePart ∈ TB := tb_mem 17 (by decide +kernel) (by decide +kernel)
theorem w_X1_dropQuery : Cond.code yX1_dropQuery cX1_dropQuery 4 none ∈ TB := tb_mem 468 (by decide +kernel) (by decide +kernel)
theorem wi_X1_dropQuery : Cond.instanceMethod yX1_dropQuery ∈ TB := tb_mem 466 (by decide +kernel) (by decide +kernel)
theorem wx_X1_dropQuery : Cond.selects yX1_dropQuery.cls yX1_dropQuery yX1_dropQuery ∈ TB := tb_mem 467 (by decide +kernel) (by decide +kernel)
theorem w_X2_popInto : Cond.code yX2_popInto cX2_popInto 3 (some .boolean) ∈ TB := tb_mem 489 (by decide +kernel) (by decide +kernel)
theorem wi_X2_popInto : Cond.instanceMethod yX2_popInto ∈ TB := tb_mem 487 (by decide +kernel) (by decide +kernel)
theorem wx_X2_popInto : Cond.selects yX2_popInto.cls yX2_popInto yX2_popInto ∈ TB := tb_mem 488 (by decide +kernel) (by decide +kernel)
theorem w_X7_hitsOf : Cond.code yX7_hitsOf cX7_hitsOf 3 (some .long) ∈ TB := tb_mem 506 (by decide +kernel) (by decide +kernel)
theorem wi_X7_hitsOf : Cond.instanceMethod yX7_hitsOf ∈ TB := tb_mem 505 (by decide +kernel) (by decide +kernel)
theorem wx_X7_hitsOf : Cond.selects yX7_hitsOf.cls yX7_hitsOf yX7_hitsOf ∈ TB := tb_mem 20 (by decide +kernel) (by decide +kernel)
theorem w_X7_holds : Cond.code yX7_holds cX7_holds 5 (some .boolean) ∈ TB := tb_mem 502 (by decide +kernel) (by decide +kernel)
theorem wi_X7_holds : Cond.instanceMethod yX7_holds ∈ TB := tb_mem 501 (by decide +kernel) (by decide +kernel)
theorem wx_X7_holds : Cond.selects yX7_holds.cls yX7_holds yX7_holds ∈ TB := tb_mem 19 (by decide +kernel) (by decide +kernel)
theorem w_X7_matches : Cond.code yX7_matches cX7_matches 4 (some .boolean) ∈ TB := tb_mem 497 (by decide +kernel) (by decide +kernel)
theorem wi_X7_matches : Cond.instanceMethod yX7_matches ∈ TB := tb_mem 496 (by decide +kernel) (by decide +kernel)
theorem wx_X7_matches : Cond.selects yX7_matches.cls yX7_matches yX7_matches ∈ TB := tb_mem 18 (by decide +kernel) (by decide +kernel)
theorem w_X7_since : Cond.code yX7_since cX7_since 3 (some .int) ∈ TB := tb_mem 514 (by decide +kernel) (by decide +kernel)
theorem wi_X7_since : Cond.instanceMethod yX7_since ∈ TB := tb_mem 513 (by decide +kernel) (by decide +kernel)
theorem wx_X7_since : Cond.selects yX7_since.cls yX7_since yX7_since ∈ TB := tb_mem 21 (by decide +kernel) (by decide +kernel)
theorem w_X7_keyOf : Cond.code yX7_keyOf cX7_keyOf 5 (some .int) ∈ TB := tb_mem 518 (by decide +kernel) (by decide +kernel)
theorem wi_X7_keyOf : Cond.instanceMethod yX7_keyOf ∈ TB := tb_mem 517 (by decide +kernel) (by decide +kernel)
theorem wx_X7_keyOf : Cond.selects yX7_keyOf.cls yX7_keyOf yX7_keyOf ∈ TB := tb_mem 22 (by decide +kernel) (by decide +kernel)
theorem w_X7_isAsked : Cond.code yX7_isAsked cX7_isAsked 3 (some .boolean) ∈ TB := tb_mem 526 (by decide +kernel) (by decide +kernel)
theorem wi_X7_isAsked : Cond.instanceMethod yX7_isAsked ∈ TB := tb_mem 525 (by decide +kernel) (by decide +kernel)
theorem wx_X7_isAsked : Cond.selects yX7_isAsked.cls yX7_isAsked yX7_isAsked ∈ TB := tb_mem 23 (by decide +kernel) (by decide +kernel)
theorem w_X6_gatherOne : Cond.code yX6_gatherOne cX6_gatherOne 3 none ∈ TB := tb_mem 596 (by decide +kernel) (by decide +kernel)
theorem wi_X6_gatherOne : Cond.instanceMethod yX6_gatherOne ∈ TB := tb_mem 594 (by decide +kernel) (by decide +kernel)
theorem wx_X6_gatherOne : Cond.selects yX6_gatherOne.cls yX6_gatherOne yX6_gatherOne ∈ TB := tb_mem 595 (by decide +kernel) (by decide +kernel)
theorem w_X4_markNodes : Cond.code yX4_markNodes cX4_markNodes 5 none ∈ TB := tb_mem 603 (by decide +kernel) (by decide +kernel)
theorem wi_X4_markNodes : Cond.instanceMethod yX4_markNodes ∈ TB := tb_mem 602 (by decide +kernel) (by decide +kernel)
theorem wx_X4_markNodes : Cond.selects yX4_markNodes.cls yX4_markNodes yX4_markNodes ∈ TB := tb_mem 25 (by decide +kernel) (by decide +kernel)
theorem w_X4_prepare : Cond.code yX4_prepare cX4_prepare 6 none ∈ TB := tb_mem 592 (by decide +kernel) (by decide +kernel)
theorem wi_X4_prepare : Cond.instanceMethod yX4_prepare ∈ TB := tb_mem 590 (by decide +kernel) (by decide +kernel)
theorem wx_X4_prepare : Cond.selects yX4_prepare.cls yX4_prepare yX4_prepare ∈ TB := tb_mem 591 (by decide +kernel) (by decide +kernel)
theorem w_X7_searchFor : Cond.code yX7_searchFor cX7_searchFor 3 (some (.object RX4)) ∈ TB := tb_mem 538 (by decide +kernel) (by decide +kernel)
theorem wi_X7_searchFor : Cond.instanceMethod yX7_searchFor ∈ TB := tb_mem 537 (by decide +kernel) (by decide +kernel)
theorem wx_X7_searchFor : Cond.selects yX7_searchFor.cls yX7_searchFor yX7_searchFor ∈ TB := tb_mem 24 (by decide +kernel) (by decide +kernel)
theorem w_X4_isMatch : Cond.code yX4_isMatch cX4_isMatch 2 (some .boolean) ∈ TB := tb_mem 613 (by decide +kernel) (by decide +kernel)
theorem wi_X4_isMatch : Cond.instanceMethod yX4_isMatch ∈ TB := tb_mem 612 (by decide +kernel) (by decide +kernel)
theorem wx_X4_isMatch : Cond.selects yX4_isMatch.cls yX4_isMatch yX4_isMatch ∈ TB := tb_mem 26 (by decide +kernel) (by decide +kernel)
theorem w_X4_stepNear : Cond.code yX4_stepNear cX4_stepNear 3 (some .int) ∈ TB := tb_mem 625 (by decide +kernel) (by decide +kernel)
theorem wi_X4_stepNear : Cond.instanceMethod yX4_stepNear ∈ TB := tb_mem 624 (by decide +kernel) (by decide +kernel)
theorem wx_X4_stepNear : Cond.selects yX4_stepNear.cls yX4_stepNear yX4_stepNear ∈ TB := tb_mem 29 (by decide +kernel) (by decide +kernel)
theorem w_X4_step : Cond.code yX4_step cX4_step 8 (some .int) ∈ TB := tb_mem 621 (by decide +kernel) (by decide +kernel)
theorem wi_X4_step : Cond.instanceMethod yX4_step ∈ TB := tb_mem 620 (by decide +kernel) (by decide +kernel)
theorem wx_X4_step : Cond.selects yX4_step.cls yX4_step yX4_step ∈ TB := tb_mem 28 (by decide +kernel) (by decide +kernel)
theorem w_X4_spread : Cond.code yX4_spread cX4_spread 6 (some .int) ∈ TB := tb_mem 617 (by decide +kernel) (by decide +kernel)
theorem wi_X4_spread : Cond.instanceMethod yX4_spread ∈ TB := tb_mem 616 (by decide +kernel) (by decide +kernel)
theorem wx_X4_spread : Cond.selects yX4_spread.cls yX4_spread yX4_spread ∈ TB := tb_mem 27 (by decide +kernel) (by decide +kernel)
theorem w_X4_fewestFrom : Cond.code yX4_fewestFrom cX4_fewestFrom 6 (some .int) ∈ TB := tb_mem 609 (by decide +kernel) (by decide +kernel)
theorem wi_X4_fewestFrom : Cond.instanceMethod yX4_fewestFrom ∈ TB := tb_mem 607 (by decide +kernel) (by decide +kernel)
theorem wx_X4_fewestFrom : Cond.selects yX4_fewestFrom.cls yX4_fewestFrom yX4_fewestFrom ∈ TB := tb_mem 608 (by decide +kernel) (by decide +kernel)
theorem w_X4_letterOfRow : Cond.code yX4_letterOfRow cX4_letterOfRow 5 (some .int) ∈ TB := tb_mem 629 (by decide +kernel) (by decide +kernel)
theorem wi_X4_letterOfRow : Cond.instanceMethod yX4_letterOfRow ∈ TB := tb_mem 627 (by decide +kernel) (by decide +kernel)
theorem wx_X4_letterOfRow : Cond.selects yX4_letterOfRow.cls yX4_letterOfRow yX4_letterOfRow ∈ TB := tb_mem 628 (by decide +kernel) (by decide +kernel)
theorem w_X4_stateBehind : Cond.code yX4_stateBehind cX4_stateBehind 4 (some .int) ∈ TB := tb_mem 638 (by decide +kernel) (by decide +kernel)
theorem wi_X4_stateBehind : Cond.instanceMethod yX4_stateBehind ∈ TB := tb_mem 636 (by decide +kernel) (by decide +kernel)
theorem wx_X4_stateBehind : Cond.selects yX4_stateBehind.cls yX4_stateBehind yX4_stateBehind ∈ TB := tb_mem 637 (by decide +kernel) (by decide +kernel)
theorem w_X4_lengthenRows : Cond.code yX4_lengthenRows cX4_lengthenRows 4 none ∈ TB := tb_mem 651 (by decide +kernel) (by decide +kernel)
theorem wi_X4_lengthenRows : Cond.instanceMethod yX4_lengthenRows ∈ TB := tb_mem 650 (by decide +kernel) (by decide +kernel)
theorem wx_X4_lengthenRows : Cond.selects yX4_lengthenRows.cls yX4_lengthenRows yX4_lengthenRows ∈ TB := tb_mem 30 (by decide +kernel) (by decide +kernel)
theorem w_X4_rowsOf : Cond.code yX4_rowsOf cX4_rowsOf 5 (some .long) ∈ TB := tb_mem 647 (by decide +kernel) (by decide +kernel)
theorem wi_X4_rowsOf : Cond.instanceMethod yX4_rowsOf ∈ TB := tb_mem 645 (by decide +kernel) (by decide +kernel)
theorem wx_X4_rowsOf : Cond.selects yX4_rowsOf.cls yX4_rowsOf yX4_rowsOf ∈ TB := tb_mem 646 (by decide +kernel) (by decide +kernel)
theorem w_X7_isWord : Cond.code yX7_isWord cX7_isWord 2 (some .boolean) ∈ TB := tb_mem 659 (by decide +kernel) (by decide +kernel)
theorem wi_X7_isWord : Cond.instanceMethod yX7_isWord ∈ TB := tb_mem 658 (by decide +kernel) (by decide +kernel)
theorem wx_X7_isWord : Cond.selects yX7_isWord.cls yX7_isWord yX7_isWord ∈ TB := tb_mem 31 (by decide +kernel) (by decide +kernel)
theorem w_X7_isNode : Cond.code yX7_isNode cX7_isNode 2 (some .boolean) ∈ TB := tb_mem 681 (by decide +kernel) (by decide +kernel)
theorem wi_X7_isNode : Cond.instanceMethod yX7_isNode ∈ TB := tb_mem 680 (by decide +kernel) (by decide +kernel)
theorem wx_X7_isNode : Cond.selects yX7_isNode.cls yX7_isNode yX7_isNode ∈ TB := tb_mem 32 (by decide +kernel) (by decide +kernel)
theorem w_X7_matching : Cond.code yX7_matching cX7_matching 4 (some .int) ∈ TB := tb_mem 697 (by decide +kernel) (by decide +kernel)
theorem wi_X7_matching : Cond.instanceMethod yX7_matching ∈ TB := tb_mem 696 (by decide +kernel) (by decide +kernel)
theorem wx_X7_matching : Cond.selects yX7_matching.cls yX7_matching yX7_matching ∈ TB := tb_mem 33 (by decide +kernel) (by decide +kernel)
theorem w_X7_withoutLast : Cond.code yX7_withoutLast cX7_withoutLast 1 (some .int) ∈ TB := tb_mem 701 (by decide +kernel) (by decide +kernel)
theorem wi_X7_withoutLast : Cond.instanceMethod yX7_withoutLast ∈ TB := tb_mem 700 (by decide +kernel) (by decide +kernel)
theorem wx_X7_withoutLast : Cond.selects yX7_withoutLast.cls yX7_withoutLast yX7_withoutLast ∈ TB := tb_mem 34 (by decide +kernel) (by decide +kernel)
theorem w_X7_asked : Cond.code yX7_asked cX7_asked 3 (some .int) ∈ TB := tb_mem 706 (by decide +kernel) (by decide +kernel)
theorem wi_X7_asked : Cond.instanceMethod yX7_asked ∈ TB := tb_mem 705 (by decide +kernel) (by decide +kernel)
theorem wx_X7_asked : Cond.selects yX7_asked.cls yX7_asked yX7_asked ∈ TB := tb_mem 35 (by decide +kernel) (by decide +kernel)
theorem w_X7_allHits : Cond.code yX7_allHits cX7_allHits 3 (some .int) ∈ TB := tb_mem 710 (by decide +kernel) (by decide +kernel)
theorem wi_X7_allHits : Cond.instanceMethod yX7_allHits ∈ TB := tb_mem 709 (by decide +kernel) (by decide +kernel)
theorem wx_X7_allHits : Cond.selects yX7_allHits.cls yX7_allHits yX7_allHits ∈ TB := tb_mem 36 (by decide +kernel) (by decide +kernel)
theorem w_X2_forget : Cond.code yX2_forget cX2_forget 1 none ∈ TB := tb_mem 722 (by decide +kernel) (by decide +kernel)
theorem wi_X2_forget : Cond.instanceMethod yX2_forget ∈ TB := tb_mem 720 (by decide +kernel) (by decide +kernel)
theorem wx_X2_forget : Cond.selects yX2_forget.cls yX2_forget yX2_forget ∈ TB := tb_mem 721 (by decide +kernel) (by decide +kernel)
theorem w_X8_byteAt : Cond.code yX8_byteAt cX8_byteAt 2 (some .int) ∈ TB := tb_mem 902 (by decide +kernel) (by decide +kernel)
theorem wi_X8_byteAt : Cond.instanceMethod yX8_byteAt ∈ TB := tb_mem 901 (by decide +kernel) (by decide +kernel)
theorem wx_X8_byteAt : Cond.selects yX8_byteAt.cls yX8_byteAt yX8_byteAt ∈ TB := tb_mem 44 (by decide +kernel) (by decide +kernel)
theorem w_X8_addWord : Cond.code yX8_addWord cX8_addWord 4 none ∈ TB := tb_mem 762 (by decide +kernel) (by decide +kernel)
theorem wi_X8_addWord : Cond.instanceMethod yX8_addWord ∈ TB := tb_mem 761 (by decide +kernel) (by decide +kernel)
theorem wx_X8_addWord : Cond.selects yX8_addWord.cls yX8_addWord yX8_addWord ∈ TB := tb_mem 39 (by decide +kernel) (by decide +kernel)
theorem w_X8_nodeOf : Cond.code yX8_nodeOf cX8_nodeOf 3 (some .int) ∈ TB := tb_mem 788 (by decide +kernel) (by decide +kernel)
theorem wi_X8_nodeOf : Cond.instanceMethod yX8_nodeOf ∈ TB := tb_mem 787 (by decide +kernel) (by decide +kernel)
theorem wx_X8_nodeOf : Cond.selects yX8_nodeOf.cls yX8_nodeOf yX8_nodeOf ∈ TB := tb_mem 42 (by decide +kernel) (by decide +kernel)
theorem w_X8_layWords : Cond.code yX8_layWords cX8_layWords 4 none ∈ TB := tb_mem 752 (by decide +kernel) (by decide +kernel)
theorem wi_X8_layWords : Cond.instanceMethod yX8_layWords ∈ TB := tb_mem 751 (by decide +kernel) (by decide +kernel)
theorem wx_X8_layWords : Cond.selects yX8_layWords.cls yX8_layWords yX8_layWords ∈ TB := tb_mem 38 (by decide +kernel) (by decide +kernel)
theorem w_X8_addNode : Cond.code yX8_addNode cX8_addNode 4 none ∈ TB := tb_mem 773 (by decide +kernel) (by decide +kernel)
theorem wi_X8_addNode : Cond.instanceMethod yX8_addNode ∈ TB := tb_mem 772 (by decide +kernel) (by decide +kernel)
theorem wx_X8_addNode : Cond.selects yX8_addNode.cls yX8_addNode yX8_addNode ∈ TB := tb_mem 40 (by decide +kernel) (by decide +kernel)
theorem w_X8_longest : Cond.code yX8_longest cX8_longest 5 (some .int) ∈ TB := tb_mem 781 (by decide +kernel) (by decide +kernel)
theorem wi_X8_longest : Cond.instanceMethod yX8_longest ∈ TB := tb_mem 780 (by decide +kernel) (by decide +kernel)
theorem wx_X8_longest : Cond.selects yX8_longest.cls yX8_longest yX8_longest ∈ TB := tb_mem 41 (by decide +kernel) (by decide +kernel)
theorem w_X8_make : Cond.code yX8_make cX8_make 5 none ∈ TB := tb_mem 748 (by decide +kernel) (by decide +kernel)
theorem wi_X8_make : Cond.instanceMethod yX8_make ∈ TB := tb_mem 747 (by decide +kernel) (by decide +kernel)
theorem wx_X8_make : Cond.selects yX8_make.cls yX8_make yX8_make ∈ TB := tb_mem 37 (by decide +kernel) (by decide +kernel)
theorem w_X8_step : Cond.code yX8_step cX8_step 2 none ∈ TB := tb_mem 898 (by decide +kernel) (by decide +kernel)
theorem wi_X8_step : Cond.instanceMethod yX8_step ∈ TB := tb_mem 897 (by decide +kernel) (by decide +kernel)
theorem wx_X8_step : Cond.selects yX8_step.cls yX8_step yX8_step ∈ TB := tb_mem 43 (by decide +kernel) (by decide +kernel)
theorem w_X8_readWord : Cond.code yX8_readWord cX8_readWord 4 (some .int) ∈ TB := tb_mem 930 (by decide +kernel) (by decide +kernel)
theorem wi_X8_readWord : Cond.instanceMethod yX8_readWord ∈ TB := tb_mem 929 (by decide +kernel) (by decide +kernel)
theorem wx_X8_readWord : Cond.selects yX8_readWord.cls yX8_readWord yX8_readWord ∈ TB := tb_mem 50 (by decide +kernel) (by decide +kernel)
theorem w_X8_isName : Cond.code yX8_isName cX8_isName 2 (some .boolean) ∈ TB := tb_mem 914 (by decide +kernel) (by decide +kernel)
theorem wi_X8_isName : Cond.instanceMethod yX8_isName ∈ TB := tb_mem 913 (by decide +kernel) (by decide +kernel)
theorem wx_X8_isName : Cond.selects yX8_isName.cls yX8_isName yX8_isName ∈ TB := tb_mem 46 (by decide +kernel) (by decide +kernel)
theorem w_X8_readPart : Cond.code yX8_readPart cX8_readPart 7 (some .boolean) ∈ TB := tb_mem 926 (by decide +kernel) (by decide +kernel)
theorem wi_X8_readPart : Cond.instanceMethod yX8_readPart ∈ TB := tb_mem 925 (by decide +kernel) (by decide +kernel)
theorem wx_X8_readPart : Cond.selects yX8_readPart.cls yX8_readPart yX8_readPart ∈ TB := tb_mem 49 (by decide +kernel) (by decide +kernel)
theorem w_X8_hasNear : Cond.code yX8_hasNear cX8_hasNear 4 (some .boolean) ∈ TB := tb_mem 922 (by decide +kernel) (by decide +kernel)
theorem wi_X8_hasNear : Cond.instanceMethod yX8_hasNear ∈ TB := tb_mem 921 (by decide +kernel) (by decide +kernel)
theorem wx_X8_hasNear : Cond.selects yX8_hasNear.cls yX8_hasNear yX8_hasNear ∈ TB := tb_mem 48 (by decide +kernel) (by decide +kernel)
theorem w_X8_isWhole : Cond.code yX8_isWhole cX8_isWhole 1 (some .boolean) ∈ TB := tb_mem 918 (by decide +kernel) (by decide +kernel)
theorem wi_X8_isWhole : Cond.instanceMethod yX8_isWhole ∈ TB := tb_mem 917 (by decide +kernel) (by decide +kernel)
theorem wx_X8_isWhole : Cond.selects yX8_isWhole.cls yX8_isWhole yX8_isWhole ∈ TB := tb_mem 47 (by decide +kernel) (by decide +kernel)
theorem w_X8_keepAct : Cond.code yX8_keepAct cX8_keepAct 2 none ∈ TB := tb_mem 935 (by decide +kernel) (by decide +kernel)
theorem wi_X8_keepAct : Cond.instanceMethod yX8_keepAct ∈ TB := tb_mem 934 (by decide +kernel) (by decide +kernel)
theorem wx_X8_keepAct : Cond.selects yX8_keepAct.cls yX8_keepAct yX8_keepAct ∈ TB := tb_mem 51 (by decide +kernel) (by decide +kernel)
theorem w_X8_readItem : Cond.code yX8_readItem cX8_readItem 3 (some .boolean) ∈ TB := tb_mem 910 (by decide +kernel) (by decide +kernel)
theorem wi_X8_readItem : Cond.instanceMethod yX8_readItem ∈ TB := tb_mem 909 (by decide +kernel) (by decide +kernel)
theorem wx_X8_readItem : Cond.selects yX8_readItem.cls yX8_readItem yX8_readItem ∈ TB := tb_mem 45 (by decide +kernel) (by decide +kernel)
theorem w_X8_isQuery : Cond.code yX8_isQuery cX8_isQuery 2 (some .boolean) ∈ TB := tb_mem 943 (by decide +kernel) (by decide +kernel)
theorem wi_X8_isQuery : Cond.instanceMethod yX8_isQuery ∈ TB := tb_mem 942 (by decide +kernel) (by decide +kernel)
theorem wx_X8_isQuery : Cond.selects yX8_isQuery.cls yX8_isQuery yX8_isQuery ∈ TB := tb_mem 52 (by decide +kernel) (by decide +kernel)
theorem w_X8_nodeAt : Cond.code yX8_nodeAt cX8_nodeAt 4 (some .int) ∈ TB := tb_mem 952 (by decide +kernel) (by decide +kernel)
theorem wi_X8_nodeAt : Cond.instanceMethod yX8_nodeAt ∈ TB := tb_mem 951 (by decide +kernel) (by decide +kernel)
theorem wx_X8_nodeAt : Cond.selects yX8_nodeAt.cls yX8_nodeAt yX8_nodeAt ∈ TB := tb_mem 53 (by decide +kernel) (by decide +kernel)
theorem w_X8_numberOf : Cond.code yX8_numberOf cX8_numberOf 3 (some .int) ∈ TB := tb_mem 980 (by decide +kernel) (by decide +kernel)
theorem wi_X8_numberOf : Cond.instanceMethod yX8_numberOf ∈ TB := tb_mem 979 (by decide +kernel) (by decide +kernel)
theorem wx_X8_numberOf : Cond.selects yX8_numberOf.cls yX8_numberOf yX8_numberOf ∈ TB := tb_mem 57 (by decide +kernel) (by decide +kernel)
theorem w_X8_hits : Cond.code yX8_hits cX8_hits 5 (some .int) ∈ TB := tb_mem 984 (by decide +kernel) (by decide +kernel)
theorem wi_X8_hits : Cond.instanceMethod yX8_hits ∈ TB := tb_mem 983 (by decide +kernel) (by decide +kernel)
theorem wx_X8_hits : Cond.selects yX8_hits.cls yX8_hits yX8_hits ∈ TB := tb_mem 58 (by decide +kernel) (by decide +kernel)
theorem w_X8_holds : Cond.code yX8_holds cX8_holds 10 (some .boolean) ∈ TB := tb_mem 976 (by decide +kernel) (by decide +kernel)
theorem wi_X8_holds : Cond.instanceMethod yX8_holds ∈ TB := tb_mem 975 (by decide +kernel) (by decide +kernel)
theorem wx_X8_holds : Cond.selects yX8_holds.cls yX8_holds yX8_holds ∈ TB := tb_mem 56 (by decide +kernel) (by decide +kernel)
theorem w_X8_matches : Cond.code yX8_matches cX8_matches 5 (some .boolean) ∈ TB := tb_mem 972 (by decide +kernel) (by decide +kernel)
theorem wi_X8_matches : Cond.instanceMethod yX8_matches ∈ TB := tb_mem 971 (by decide +kernel) (by decide +kernel)
theorem wx_X8_matches : Cond.selects yX8_matches.cls yX8_matches yX8_matches ∈ TB := tb_mem 55 (by decide +kernel) (by decide +kernel)
theorem w_X8_key : Cond.code yX8_key cX8_key 6 (some .int) ∈ TB := tb_mem 995 (by decide +kernel) (by decide +kernel)
theorem wi_X8_key : Cond.instanceMethod yX8_key ∈ TB := tb_mem 994 (by decide +kernel) (by decide +kernel)
theorem wx_X8_key : Cond.selects yX8_key.cls yX8_key yX8_key ∈ TB := tb_mem 60 (by decide +kernel) (by decide +kernel)
theorem w_X8_layEnds : Cond.code yX8_layEnds cX8_layEnds 3 none ∈ TB := tb_mem 968 (by decide +kernel) (by decide +kernel)
theorem wi_X8_layEnds : Cond.instanceMethod yX8_layEnds ∈ TB := tb_mem 967 (by decide +kernel) (by decide +kernel)
theorem wx_X8_layEnds : Cond.selects yX8_layEnds.cls yX8_layEnds yX8_layEnds ∈ TB := tb_mem 54 (by decide +kernel) (by decide +kernel)
theorem w_X8_since : Cond.code yX8_since cX8_since 3 (some .int) ∈ TB := tb_mem 991 (by decide +kernel) (by decide +kernel)
theorem wi_X8_since : Cond.instanceMethod yX8_since ∈ TB := tb_mem 990 (by decide +kernel) (by decide +kernel)
theorem wx_X8_since : Cond.selects yX8_since.cls yX8_since yX8_since ∈ TB := tb_mem 59 (by decide +kernel) (by decide +kernel)
theorem w_X8_isAsked : Cond.code yX8_isAsked cX8_isAsked 3 (some .boolean) ∈ TB := tb_mem 999 (by decide +kernel) (by decide +kernel)
theorem wi_X8_isAsked : Cond.instanceMethod yX8_isAsked ∈ TB := tb_mem 998 (by decide +kernel) (by decide +kernel)
theorem wx_X8_isAsked : Cond.selects yX8_isAsked.cls yX8_isAsked yX8_isAsked ∈ TB := tb_mem 61 (by decide +kernel) (by decide +kernel)
theorem w_X8_isDone : Cond.code yX8_isDone cX8_isDone 2 (some .boolean) ∈ TB := tb_mem 1026 (by decide +kernel) (by decide +kernel)
theorem wi_X8_isDone : Cond.instanceMethod yX8_isDone ∈ TB := tb_mem 1025 (by decide +kernel) (by decide +kernel)
theorem wx_X8_isDone : Cond.selects yX8_isDone.cls yX8_isDone yX8_isDone ∈ TB := tb_mem 65 (by decide +kernel) (by decide +kernel)
theorem w_X8_behind : Cond.code yX8_behind cX8_behind 8 (some .int) ∈ TB := tb_mem 1031 (by decide +kernel) (by decide +kernel)
theorem wi_X8_behind : Cond.instanceMethod yX8_behind ∈ TB := tb_mem 1030 (by decide +kernel) (by decide +kernel)
theorem wx_X8_behind : Cond.selects yX8_behind.cls yX8_behind yX8_behind ∈ TB := tb_mem 66 (by decide +kernel) (by decide +kernel)
theorem w_X8_takes : Cond.code yX8_takes cX8_takes 5 none ∈ TB := tb_mem 1011 (by decide +kernel) (by decide +kernel)
theorem wi_X8_takes : Cond.instanceMethod yX8_takes ∈ TB := tb_mem 1010 (by decide +kernel) (by decide +kernel)
theorem wx_X8_takes : Cond.selects yX8_takes.cls yX8_takes yX8_takes ∈ TB := tb_mem 62 (by decide +kernel) (by decide +kernel)
theorem w_X8_begins : Cond.code yX8_begins cX8_begins 1 (some .int) ∈ TB := tb_mem 1015 (by decide +kernel) (by decide +kernel)
theorem wi_X8_begins : Cond.instanceMethod yX8_begins ∈ TB := tb_mem 1014 (by decide +kernel) (by decide +kernel)
theorem wx_X8_begins : Cond.selects yX8_begins.cls yX8_begins yX8_begins ∈ TB := tb_mem 63 (by decide +kernel) (by decide +kernel)
theorem w_X8_nearest : Cond.code yX8_nearest cX8_nearest 9 (some .int) ∈ TB := tb_mem 1022 (by decide +kernel) (by decide +kernel)
theorem wi_X8_nearest : Cond.instanceMethod yX8_nearest ∈ TB := tb_mem 1021 (by decide +kernel) (by decide +kernel)
theorem wx_X8_nearest : Cond.selects yX8_nearest.cls yX8_nearest yX8_nearest ∈ TB := tb_mem 64 (by decide +kernel) (by decide +kernel)
theorem w_X8_allHits : Cond.code yX8_allHits cX8_allHits 3 (some .int) ∈ TB := tb_mem 1071 (by decide +kernel) (by decide +kernel)
theorem wi_X8_allHits : Cond.instanceMethod yX8_allHits ∈ TB := tb_mem 1070 (by decide +kernel) (by decide +kernel)
theorem wx_X8_allHits : Cond.selects yX8_allHits.cls yX8_allHits yX8_allHits ∈ TB := tb_mem 67 (by decide +kernel) (by decide +kernel)
theorem w_X7_type : Cond.code yX7_type cX7_type 2 (some .int) ∈ TB := tb_mem 289 (by decide +kernel) (by decide +kernel)
theorem wi_X7_type : Cond.instanceMethod yX7_type ∈ TB := tb_mem 287 (by decide +kernel) (by decide +kernel)
theorem wx_X7_type : Cond.selects yX7_type.cls yX7_type yX7_type ∈ TB := tb_mem 288 (by decide +kernel) (by decide +kernel)
theorem w_X8_type : Cond.code yX8_type cX8_type 2 (some .int) ∈ TB := tb_mem 730 (by decide +kernel) (by decide +kernel)
theorem wi_X8_type : Cond.instanceMethod yX8_type ∈ TB := tb_mem 728 (by decide +kernel) (by decide +kernel)
theorem wx_X8_type : Cond.selects yX8_type.cls yX8_type yX8_type ∈ TB := tb_mem 729 (by decide +kernel) (by decide +kernel)
theorem w_X7_clear : Cond.code yX7_clear cX7_clear 2 (some .int) ∈ TB := tb_mem 297 (by decide +kernel) (by decide +kernel)
theorem wi_X7_clear : Cond.instanceMethod yX7_clear ∈ TB := tb_mem 295 (by decide +kernel) (by decide +kernel)
theorem wx_X7_clear : Cond.selects yX7_clear.cls yX7_clear yX7_clear ∈ TB := tb_mem 296 (by decide +kernel) (by decide +kernel)
theorem w_X8_clear : Cond.code yX8_clear cX8_clear 2 (some .int) ∈ TB := tb_mem 738 (by decide +kernel) (by decide +kernel)
theorem wi_X8_clear : Cond.instanceMethod yX8_clear ∈ TB := tb_mem 736 (by decide +kernel) (by decide +kernel)
theorem wx_X8_clear : Cond.selects yX8_clear.cls yX8_clear yX8_clear ∈ TB := tb_mem 737 (by decide +kernel) (by decide +kernel)
theorem w_X7_adds : Cond.code yX7_adds cX7_adds 3 (some .int) ∈ TB := tb_mem 301 (by decide +kernel) (by decide +kernel)
theorem wi_X7_adds : Cond.instanceMethod yX7_adds ∈ TB := tb_mem 299 (by decide +kernel) (by decide +kernel)
theorem wx_X7_adds : Cond.selects yX7_adds.cls yX7_adds yX7_adds ∈ TB := tb_mem 300 (by decide +kernel) (by decide +kernel)
theorem w_X8_adds : Cond.code yX8_adds cX8_adds 3 (some .int) ∈ TB := tb_mem 891 (by decide +kernel) (by decide +kernel)
theorem wi_X8_adds : Cond.instanceMethod yX8_adds ∈ TB := tb_mem 889 (by decide +kernel) (by decide +kernel)
theorem wx_X8_adds : Cond.selects yX8_adds.cls yX8_adds yX8_adds ∈ TB := tb_mem 890 (by decide +kernel) (by decide +kernel)
theorem w_X7_drops : Cond.code yX7_drops cX7_drops 2 (some .int) ∈ TB := tb_mem 460 (by decide +kernel) (by decide +kernel)
theorem wi_X7_drops : Cond.instanceMethod yX7_drops ∈ TB := tb_mem 458 (by decide +kernel) (by decide +kernel)
theorem wx_X7_drops : Cond.selects yX7_drops.cls yX7_drops yX7_drops ∈ TB := tb_mem 459 (by decide +kernel) (by decide +kernel)
theorem w_X8_drops : Cond.code yX8_drops cX8_drops 3 (some .int) ∈ TB := tb_mem 939 (by decide +kernel) (by decide +kernel)
theorem wi_X8_drops : Cond.instanceMethod yX8_drops ∈ TB := tb_mem 937 (by decide +kernel) (by decide +kernel)
theorem wx_X8_drops : Cond.selects yX8_drops.cls yX8_drops yX8_drops ∈ TB := tb_mem 938 (by decide +kernel) (by decide +kernel)
theorem w_X7_feeds : Cond.code yX7_feeds cX7_feeds 2 (some .int) ∈ TB := tb_mem 476 (by decide +kernel) (by decide +kernel)
theorem wi_X7_feeds : Cond.instanceMethod yX7_feeds ∈ TB := tb_mem 474 (by decide +kernel) (by decide +kernel)
theorem wx_X7_feeds : Cond.selects yX7_feeds.cls yX7_feeds yX7_feeds ∈ TB := tb_mem 475 (by decide +kernel) (by decide +kernel)
theorem w_X8_feeds : Cond.code yX8_feeds cX8_feeds 2 (some .int) ∈ TB := tb_mem 947 (by decide +kernel) (by decide +kernel)
theorem wi_X8_feeds : Cond.instanceMethod yX8_feeds ∈ TB := tb_mem 945 (by decide +kernel) (by decide +kernel)
theorem wx_X8_feeds : Cond.selects yX8_feeds.cls yX8_feeds yX8_feeds ∈ TB := tb_mem 946 (by decide +kernel) (by decide +kernel)
theorem w_X7_cuts : Cond.code yX7_cuts cX7_cuts 2 (some .int) ∈ TB := tb_mem 481 (by decide +kernel) (by decide +kernel)
theorem wi_X7_cuts : Cond.instanceMethod yX7_cuts ∈ TB := tb_mem 479 (by decide +kernel) (by decide +kernel)
theorem wx_X7_cuts : Cond.selects yX7_cuts.cls yX7_cuts yX7_cuts ∈ TB := tb_mem 480 (by decide +kernel) (by decide +kernel)
theorem w_X8_cuts : Cond.code yX8_cuts cX8_cuts 2 (some .int) ∈ TB := tb_mem 956 (by decide +kernel) (by decide +kernel)
theorem wi_X8_cuts : Cond.instanceMethod yX8_cuts ∈ TB := tb_mem 954 (by decide +kernel) (by decide +kernel)
theorem wx_X8_cuts : Cond.selects yX8_cuts.cls yX8_cuts yX8_cuts ∈ TB := tb_mem 955 (by decide +kernel) (by decide +kernel)
theorem w_X7_undo : Cond.code yX7_undo cX7_undo 1 (some .int) ∈ TB := tb_mem 485 (by decide +kernel) (by decide +kernel)
theorem wi_X7_undo : Cond.instanceMethod yX7_undo ∈ TB := tb_mem 483 (by decide +kernel) (by decide +kernel)
theorem wx_X7_undo : Cond.selects yX7_undo.cls yX7_undo yX7_undo ∈ TB := tb_mem 484 (by decide +kernel) (by decide +kernel)
theorem w_X8_undo : Cond.code yX8_undo cX8_undo 2 (some .int) ∈ TB := tb_mem 960 (by decide +kernel) (by decide +kernel)
theorem wi_X8_undo : Cond.instanceMethod yX8_undo ∈ TB := tb_mem 958 (by decide +kernel) (by decide +kernel)
theorem wx_X8_undo : Cond.selects yX8_undo.cls yX8_undo yX8_undo ∈ TB := tb_mem 959 (by decide +kernel) (by decide +kernel)
theorem w_X7_query : Cond.code yX7_query cX7_query 3 (some .int) ∈ TB := tb_mem 493 (by decide +kernel) (by decide +kernel)
theorem wi_X7_query : Cond.instanceMethod yX7_query ∈ TB := tb_mem 491 (by decide +kernel) (by decide +kernel)
theorem wx_X7_query : Cond.selects yX7_query.cls yX7_query yX7_query ∈ TB := tb_mem 492 (by decide +kernel) (by decide +kernel)
theorem w_X8_query : Cond.code yX8_query cX8_query 3 (some .int) ∈ TB := tb_mem 964 (by decide +kernel) (by decide +kernel)
theorem wi_X8_query : Cond.instanceMethod yX8_query ∈ TB := tb_mem 962 (by decide +kernel) (by decide +kernel)
theorem wx_X8_query : Cond.selects yX8_query.cls yX8_query yX8_query ∈ TB := tb_mem 963 (by decide +kernel) (by decide +kernel)
theorem w_X7_part : Cond.code yX7_part cX7_part 5 (some .int) ∈ TB := tb_mem 530 (by decide +kernel) (by decide +kernel)
theorem wi_X7_part : Cond.instanceMethod yX7_part ∈ TB := tb_mem 528 (by decide +kernel) (by decide +kernel)
theorem wx_X7_part : Cond.selects yX7_part.cls yX7_part yX7_part ∈ TB := tb_mem 529 (by decide +kernel) (by decide +kernel)
theorem w_X8_part : Cond.code yX8_part cX8_part 5 (some .int) ∈ TB := tb_mem 1003 (by decide +kernel) (by decide +kernel)
theorem wi_X8_part : Cond.instanceMethod yX8_part ∈ TB := tb_mem 1001 (by decide +kernel) (by decide +kernel)
theorem wx_X8_part : Cond.selects yX8_part.cls yX8_part yX8_part ∈ TB := tb_mem 1002 (by decide +kernel) (by decide +kernel)
theorem w_X7_shortest : Cond.code yX7_shortest cX7_shortest 5 (some .int) ∈ TB := tb_mem 534 (by decide +kernel) (by decide +kernel)
theorem wi_X7_shortest : Cond.instanceMethod yX7_shortest ∈ TB := tb_mem 532 (by decide +kernel) (by decide +kernel)
theorem wx_X7_shortest : Cond.selects yX7_shortest.cls yX7_shortest yX7_shortest ∈ TB := tb_mem 533 (by decide +kernel) (by decide +kernel)
theorem w_X8_shortest : Cond.code yX8_shortest cX8_shortest 5 (some .int) ∈ TB := tb_mem 1007 (by decide +kernel) (by decide +kernel)
theorem wi_X8_shortest : Cond.instanceMethod yX8_shortest ∈ TB := tb_mem 1005 (by decide +kernel) (by decide +kernel)
theorem wx_X8_shortest : Cond.selects yX8_shortest.cls yX8_shortest yX8_shortest ∈ TB := tb_mem 1006 (by decide +kernel) (by decide +kernel)
theorem w_X7_more : Cond.code yX7_more cX7_more 3 (some .int) ∈ TB := tb_mem 634 (by decide +kernel) (by decide +kernel)
theorem wi_X7_more : Cond.instanceMethod yX7_more ∈ TB := tb_mem 632 (by decide +kernel) (by decide +kernel)
theorem wx_X7_more : Cond.selects yX7_more.cls yX7_more yX7_more ∈ TB := tb_mem 633 (by decide +kernel) (by decide +kernel)
theorem w_X8_more : Cond.code yX8_more cX8_more 4 (some .int) ∈ TB := tb_mem 1036 (by decide +kernel) (by decide +kernel)
theorem wi_X8_more : Cond.instanceMethod yX8_more ∈ TB := tb_mem 1034 (by decide +kernel) (by decide +kernel)
theorem wx_X8_more : Cond.selects yX8_more.cls yX8_more yX8_more ∈ TB := tb_mem 1035 (by decide +kernel) (by decide +kernel)
theorem w_X7_many : Cond.code yX7_many cX7_many 3 (some .long) ∈ TB := tb_mem 642 (by decide +kernel) (by decide +kernel)
theorem wi_X7_many : Cond.instanceMethod yX7_many ∈ TB := tb_mem 640 (by decide +kernel) (by decide +kernel)
theorem wx_X7_many : Cond.selects yX7_many.cls yX7_many yX7_many ∈ TB := tb_mem 641 (by decide +kernel) (by decide +kernel)
theorem w_X8_many : Cond.code yX8_many cX8_many 7 (some .long) ∈ TB := tb_mem 1040 (by decide +kernel) (by decide +kernel)
theorem wi_X8_many : Cond.instanceMethod yX8_many ∈ TB := tb_mem 1038 (by decide +kernel) (by decide +kernel)
theorem wx_X8_many : Cond.selects yX8_many.cls yX8_many yX8_many ∈ TB := tb_mem 1039 (by decide +kernel) (by decide +kernel)
theorem w_X7_word : Cond.code yX7_word cX7_word 5 (some .int) ∈ TB := tb_mem 655 (by decide +kernel) (by decide +kernel)
theorem wi_X7_word : Cond.instanceMethod yX7_word ∈ TB := tb_mem 653 (by decide +kernel) (by decide +kernel)
theorem wx_X7_word : Cond.selects yX7_word.cls yX7_word yX7_word ∈ TB := tb_mem 654 (by decide +kernel) (by decide +kernel)
theorem w_X8_word : Cond.code yX8_word cX8_word 4 (some .int) ∈ TB := tb_mem 1046 (by decide +kernel) (by decide +kernel)
theorem wi_X8_word : Cond.instanceMethod yX8_word ∈ TB := tb_mem 1044 (by decide +kernel) (by decide +kernel)
theorem wx_X8_word : Cond.selects yX8_word.cls yX8_word yX8_word ∈ TB := tb_mem 1045 (by decide +kernel) (by decide +kernel)
theorem w_X7_hit : Cond.code yX7_hit cX7_hit 3 (some .int) ∈ TB := tb_mem 664 (by decide +kernel) (by decide +kernel)
theorem wi_X7_hit : Cond.instanceMethod yX7_hit ∈ TB := tb_mem 662 (by decide +kernel) (by decide +kernel)
theorem wx_X7_hit : Cond.selects yX7_hit.cls yX7_hit yX7_hit ∈ TB := tb_mem 663 (by decide +kernel) (by decide +kernel)
theorem w_X8_hit : Cond.code yX8_hit cX8_hit 5 (some .int) ∈ TB := tb_mem 1050 (by decide +kernel) (by decide +kernel)
theorem wi_X8_hit : Cond.instanceMethod yX8_hit ∈ TB := tb_mem 1048 (by decide +kernel) (by decide +kernel)
theorem wx_X8_hit : Cond.selects yX8_hit.cls yX8_hit yX8_hit ∈ TB := tb_mem 1049 (by decide +kernel) (by decide +kernel)
theorem w_X7_node : Cond.code yX7_node cX7_node 3 (some .int) ∈ TB := tb_mem 677 (by decide +kernel) (by decide +kernel)
theorem wi_X7_node : Cond.instanceMethod yX7_node ∈ TB := tb_mem 675 (by decide +kernel) (by decide +kernel)
theorem wx_X7_node : Cond.selects yX7_node.cls yX7_node yX7_node ∈ TB := tb_mem 676 (by decide +kernel) (by decide +kernel)
theorem w_X8_node : Cond.code yX8_node cX8_node 4 (some .int) ∈ TB := tb_mem 1054 (by decide +kernel) (by decide +kernel)
theorem wi_X8_node : Cond.instanceMethod yX8_node ∈ TB := tb_mem 1052 (by decide +kernel) (by decide +kernel)
theorem wx_X8_node : Cond.selects yX8_node.cls yX8_node yX8_node ∈ TB := tb_mem 1053 (by decide +kernel) (by decide +kernel)
theorem w_X7_next : Cond.code yX7_next cX7_next 3 (some .int) ∈ TB := tb_mem 685 (by decide +kernel) (by decide +kernel)
theorem wi_X7_next : Cond.instanceMethod yX7_next ∈ TB := tb_mem 683 (by decide +kernel) (by decide +kernel)
theorem wx_X7_next : Cond.selects yX7_next.cls yX7_next yX7_next ∈ TB := tb_mem 684 (by decide +kernel) (by decide +kernel)
theorem w_X8_next : Cond.code yX8_next cX8_next 3 (some .int) ∈ TB := tb_mem 1058 (by decide +kernel) (by decide +kernel)
theorem wi_X8_next : Cond.instanceMethod yX8_next ∈ TB := tb_mem 1056 (by decide +kernel) (by decide +kernel)
theorem wx_X8_next : Cond.selects yX8_next.cls yX8_next yX8_next ∈ TB := tb_mem 1057 (by decide +kernel) (by decide +kernel)
theorem w_X7_letter : Cond.code yX7_letter cX7_letter 2 (some .int) ∈ TB := tb_mem 689 (by decide +kernel) (by decide +kernel)
theorem wi_X7_letter : Cond.instanceMethod yX7_letter ∈ TB := tb_mem 687 (by decide +kernel) (by decide +kernel)
theorem wx_X7_letter : Cond.selects yX7_letter.cls yX7_letter yX7_letter ∈ TB := tb_mem 688 (by decide +kernel) (by decide +kernel)
theorem w_X8_letter : Cond.code yX8_letter cX8_letter 2 (some .int) ∈ TB := tb_mem 1062 (by decide +kernel) (by decide +kernel)
theorem wi_X8_letter : Cond.instanceMethod yX8_letter ∈ TB := tb_mem 1060 (by decide +kernel) (by decide +kernel)
theorem wx_X8_letter : Cond.selects yX8_letter.cls yX8_letter yX8_letter ∈ TB := tb_mem 1061 (by decide +kernel) (by decide +kernel)
theorem w_X7_now : Cond.code yX7_now cX7_now 2 (some .int) ∈ TB := tb_mem 693 (by decide +kernel) (by decide +kernel)
theorem wi_X7_now : Cond.instanceMethod yX7_now ∈ TB := tb_mem 691 (by decide +kernel) (by decide +kernel)
theorem wx_X7_now : Cond.selects yX7_now.cls yX7_now yX7_now ∈ TB := tb_mem 692 (by decide +kernel) (by decide +kernel)
theorem w_X8_now : Cond.code yX8_now cX8_now 7 (some .int) ∈ TB := tb_mem 1066 (by decide +kernel) (by decide +kernel)
theorem wi_X8_now : Cond.instanceMethod yX8_now ∈ TB := tb_mem 1064 (by decide +kernel) (by decide +kernel)
theorem wx_X8_now : Cond.selects yX8_now.cls yX8_now yX8_now ∈ TB := tb_mem 1065 (by decide +kernel) (by decide +kernel)
theorem w_X7_keep : Cond.code yX7_keep cX7_keep 3 (some .int) ∈ TB := tb_mem 714 (by decide +kernel) (by decide +kernel)
theorem wi_X7_keep : Cond.instanceMethod yX7_keep ∈ TB := tb_mem 712 (by decide +kernel) (by decide +kernel)
theorem wx_X7_keep : Cond.selects yX7_keep.cls yX7_keep yX7_keep ∈ TB := tb_mem 713 (by decide +kernel) (by decide +kernel)
theorem w_X8_keep : Cond.code yX8_keep cX8_keep 3 (some .int) ∈ TB := tb_mem 1075 (by decide +kernel) (by decide +kernel)
theorem wi_X8_keep : Cond.instanceMethod yX8_keep ∈ TB := tb_mem 1073 (by decide +kernel) (by decide +kernel)
theorem wx_X8_keep : Cond.selects yX8_keep.cls yX8_keep yX8_keep ∈ TB := tb_mem 1074 (by decide +kernel) (by decide +kernel)
theorem w_X7_back : Cond.code yX7_back cX7_back 3 (some .int) ∈ TB := tb_mem 718 (by decide +kernel) (by decide +kernel)
theorem wi_X7_back : Cond.instanceMethod yX7_back ∈ TB := tb_mem 716 (by decide +kernel) (by decide +kernel)
theorem wx_X7_back : Cond.selects yX7_back.cls yX7_back yX7_back ∈ TB := tb_mem 717 (by decide +kernel) (by decide +kernel)
theorem w_X8_back : Cond.code yX8_back cX8_back 3 (some .int) ∈ TB := tb_mem 1079 (by decide +kernel) (by decide +kernel)
theorem wi_X8_back : Cond.instanceMethod yX8_back ∈ TB := tb_mem 1077 (by decide +kernel) (by decide +kernel)
theorem wx_X8_back : Cond.selects yX8_back.cls yX8_back yX8_back ∈ TB := tb_mem 1078 (by decide +kernel) (by decide +kernel)
theorem w_X7_count : Cond.code yX7_count cX7_count 2 (some .int) ∈ TB := tb_mem 726 (by decide +kernel) (by decide +kernel)
theorem wi_X7_count : Cond.instanceMethod yX7_count ∈ TB := tb_mem 724 (by decide +kernel) (by decide +kernel)
theorem wx_X7_count : Cond.selects yX7_count.cls yX7_count yX7_count ∈ TB := tb_mem 725 (by decide +kernel) (by decide +kernel)
theorem w_X8_count : Cond.code yX8_count cX8_count 2 (some .int) ∈ TB := tb_mem 1083 (by decide +kernel) (by decide +kernel)
theorem wi_X8_count : Cond.instanceMethod yX8_count ∈ TB := tb_mem 1081 (by decide +kernel) (by decide +kernel)
theorem wx_X8_count : Cond.selects yX8_count.cls yX8_count yX8_count ∈ TB := tb_mem 1082 (by decide +kernel) (by decide +kernel)
theorem w_X5_kindOf : Cond.code yX5_kindOf cX5_kindOf 1 (some .int) ∈ TB := tb_mem 339 (by decide +kernel) (by decide +kernel)
theorem ws_X5_kindOf : Cond.static yX5_kindOf ∈ TB := tb_mem 338 (by decide +kernel) (by decide +kernel)
theorem w_X7_isLetter : Cond.code yX7_isLetter cX7_isLetter 1 (some .boolean) ∈ TB := tb_mem 382 (by decide +kernel) (by decide +kernel)
theorem ws_X7_isLetter : Cond.static yX7_isLetter ∈ TB := tb_mem 381 (by decide +kernel) (by decide +kernel)
theorem w_X3_shiftOf : Cond.code yX3_shiftOf cX3_shiftOf 1 (some .int) ∈ TB := tb_mem 388 (by decide +kernel) (by decide +kernel)
theorem ws_X3_shiftOf : Cond.static yX3_shiftOf ∈ TB := tb_mem 387 (by decide +kernel) (by decide +kernel)
theorem w_X3_withLetter : Cond.code yX3_withLetter cX3_withLetter 3 (some .int) ∈ TB := tb_mem 385 (by decide +kernel) (by decide +kernel)
theorem ws_X3_withLetter : Cond.static yX3_withLetter ∈ TB := tb_mem 384 (by decide +kernel) (by decide +kernel)
theorem w_J7_fill_53178 : Cond.code yJ7_fill_53178 cJ7_fill_53178 4 none ∈ TB := tb_mem 425 (by decide +kernel) (by decide +kernel)
theorem ws_J7_fill_53178 : Cond.static yJ7_fill_53178 ∈ TB := tb_mem 424 (by decide +kernel) (by decide +kernel)
theorem w_X3_sizeOf : Cond.code yX3_sizeOf cX3_sizeOf 3 (some .int) ∈ TB := tb_mem 432 (by decide +kernel) (by decide +kernel)
theorem ws_X3_sizeOf : Cond.static yX3_sizeOf ∈ TB := tb_mem 431 (by decide +kernel) (by decide +kernel)
theorem w_X3_headOf : Cond.code yX3_headOf cX3_headOf 2 (some .int) ∈ TB := tb_mem 435 (by decide +kernel) (by decide +kernel)
theorem ws_X3_headOf : Cond.static yX3_headOf ∈ TB := tb_mem 434 (by decide +kernel) (by decide +kernel)
theorem w_X3_letterAt : Cond.code yX3_letterAt cX3_letterAt 2 (some .int) ∈ TB := tb_mem 438 (by decide +kernel) (by decide +kernel)
theorem ws_X3_letterAt : Cond.static yX3_letterAt ∈ TB := tb_mem 437 (by decide +kernel) (by decide +kernel)
theorem w_J7_fill_d0a16 : Cond.code yJ7_fill_d0a16 cJ7_fill_d0a16 5 none ∈ TB := tb_mem 456 (by decide +kernel) (by decide +kernel)
theorem ws_J7_fill_d0a16 : Cond.static yJ7_fill_d0a16 ∈ TB := tb_mem 455 (by decide +kernel) (by decide +kernel)
theorem w_X7_isNear : Cond.code yX7_isNear cX7_isNear 6 (some .boolean) ∈ TB := tb_mem 510 (by decide +kernel) (by decide +kernel)
theorem ws_X7_isNear : Cond.static yX7_isNear ∈ TB := tb_mem 509 (by decide +kernel) (by decide +kernel)
theorem w_X7_isBetterKey : Cond.code yX7_isBetterKey cX7_isBetterKey 3 (some .boolean) ∈ TB := tb_mem 521 (by decide +kernel) (by decide +kernel)
theorem ws_X7_isBetterKey : Cond.static yX7_isBetterKey ∈ TB := tb_mem 520 (by decide +kernel) (by decide +kernel)
theorem w_X7_placeOfBit : Cond.code yX7_placeOfBit cX7_placeOfBit 5 (some .int) ∈ TB := tb_mem 673 (by decide +kernel) (by decide +kernel)
theorem ws_X7_placeOfBit : Cond.static yX7_placeOfBit ∈ TB := tb_mem 672 (by decide +kernel) (by decide +kernel)
theorem w_J13_bitCount_95d88 : Cond.code yJ13_bitCount_95d88 cJ13_bitCount_95d88 2 (some .int) ∈ TB := tb_mem 667 (by decide +kernel) (by decide +kernel)
theorem ws_J13_bitCount_95d88 : Cond.static yJ13_bitCount_95d88 ∈ TB := tb_mem 666 (by decide +kernel) (by decide +kernel)
theorem w_X8_in : Cond.code yX8_in cX8_in 6 (some .boolean) ∈ TB := tb_mem 734 (by decide +kernel) (by decide +kernel)
theorem ws_X8_in : Cond.static yX8_in ∈ TB := tb_mem 733 (by decide +kernel) (by decide +kernel)
theorem w_X8_letterOf : Cond.code yX8_letterOf cX8_letterOf 2 (some .int) ∈ TB := tb_mem 769 (by decide +kernel) (by decide +kernel)
theorem ws_X8_letterOf : Cond.static yX8_letterOf ∈ TB := tb_mem 768 (by decide +kernel) (by decide +kernel)
theorem w_X8_order : Cond.code yX8_order cX8_order 6 (some .int) ∈ TB := tb_mem 765 (by decide +kernel) (by decide +kernel)
theorem ws_X8_order : Cond.static yX8_order ∈ TB := tb_mem 764 (by decide +kernel) (by decide +kernel)
theorem w_X8_parts : Cond.code yX8_parts cX8_parts 2 (some .int) ∈ TB := tb_mem 755 (by decide +kernel) (by decide +kernel)
theorem ws_X8_parts : Cond.static yX8_parts ∈ TB := tb_mem 754 (by decide +kernel) (by decide +kernel)
theorem w_X8_of : Cond.code yX8_of cX8_of 4 (some .int) ∈ TB := tb_mem 758 (by decide +kernel) (by decide +kernel)
theorem ws_X8_of : Cond.static yX8_of ∈ TB := tb_mem 757 (by decide +kernel) (by decide +kernel)
theorem w_X8_lasts : Cond.code yX8_lasts cX8_lasts 2 (some .int) ∈ TB := tb_mem 784 (by decide +kernel) (by decide +kernel)
theorem ws_X8_lasts : Cond.static yX8_lasts ∈ TB := tb_mem 783 (by decide +kernel) (by decide +kernel)
theorem w_X8_withLetter : Cond.code yX8_withLetter cX8_withLetter 2 (some .int) ∈ TB := tb_mem 791 (by decide +kernel) (by decide +kernel)
theorem ws_X8_withLetter : Cond.static yX8_withLetter ∈ TB := tb_mem 790 (by decide +kernel) (by decide +kernel)
theorem w_X8_firsts : Cond.code yX8_firsts cX8_firsts 2 (some .int) ∈ TB := tb_mem 776 (by decide +kernel) (by decide +kernel)
theorem ws_X8_firsts : Cond.static yX8_firsts ∈ TB := tb_mem 775 (by decide +kernel) (by decide +kernel)
theorem w_X8_copyAll : Cond.code yX8_copyAll cX8_copyAll 3 none ∈ TB := tb_mem 894 (by decide +kernel) (by decide +kernel)
theorem ws_X8_copyAll : Cond.static yX8_copyAll ∈ TB := tb_mem 893 (by decide +kernel) (by decide +kernel)
theorem w_X8_has : Cond.code yX8_has cX8_has 2 (some .boolean) ∈ TB := tb_mem 987 (by decide +kernel) (by decide +kernel)
theorem ws_X8_has : Cond.static yX8_has ∈ TB := tb_mem 986 (by decide +kernel) (by decide +kernel)
theorem w_X8_stateOf : Cond.code yX8_stateOf cX8_stateOf 3 (some .int) ∈ TB := tb_mem 1018 (by decide +kernel) (by decide +kernel)
theorem ws_X8_stateOf : Cond.static yX8_stateOf ∈ TB := tb_mem 1017 (by decide +kernel) (by decide +kernel)
theorem w_X1_init : Cond.code yX1_init cX1_init 1 none ∈ TB := tb_mem 100 (by decide +kernel) (by decide +kernel)
theorem wi_X1_init : Cond.instanceMethod yX1_init ∈ TB := tb_mem 99 (by decide +kernel) (by decide +kernel)
theorem w_X6_init : Cond.code yX6_init cX6_init 2 none ∈ TB := tb_mem 153 (by decide +kernel) (by decide +kernel)
theorem wi_X6_init : Cond.instanceMethod yX6_init ∈ TB := tb_mem 152 (by decide +kernel) (by decide +kernel)
theorem w_X5_init : Cond.code yX5_init cX5_init 1 none ∈ TB := tb_mem 94 (by decide +kernel) (by decide +kernel)
theorem wi_X5_init : Cond.instanceMethod yX5_init ∈ TB := tb_mem 93 (by decide +kernel) (by decide +kernel)
theorem w_X2_init : Cond.code yX2_init cX2_init 1 none ∈ TB := tb_mem 199 (by decide +kernel) (by decide +kernel)
theorem wi_X2_init : Cond.instanceMethod yX2_init ∈ TB := tb_mem 198 (by decide +kernel) (by decide +kernel)
theorem w_X0_init : Cond.code yX0_init cX0_init 3 none ∈ TB := tb_mem 220 (by decide +kernel) (by decide +kernel)
theorem wi_X0_init : Cond.instanceMethod yX0_init ∈ TB := tb_mem 219 (by decide +kernel) (by decide +kernel)
theorem w_X4_init : Cond.code yX4_init cX4_init 1 none ∈ TB := tb_mem 543 (by decide +kernel) (by decide +kernel)
theorem wi_X4_init : Cond.instanceMethod yX4_init ∈ TB := tb_mem 542 (by decide +kernel) (by decide +kernel)
theorem w_X7_init : Cond.code yX7_init cX7_init 1 none ∈ TB := tb_mem 86 (by decide +kernel) (by decide +kernel)
theorem wi_X7_init : Cond.instanceMethod yX7_init ∈ TB := tb_mem 85 (by decide +kernel) (by decide +kernel)
theorem w_X8_init : Cond.code yX8_init cX8_init 1 none ∈ TB := tb_mem 743 (by decide +kernel) (by decide +kernel)
theorem wi_X8_init : Cond.instanceMethod yX8_init ∈ TB := tb_mem 742 (by decide +kernel) (by decide +kernel)
theorem v_L_13 : VL RL 13 6 yX7_type cX7_type 2 (some .int) 1 := ⟨⟨w_X7_type, iz_X7, by decide +kernel⟩, tb_mem 286 (by decide +kernel) (by decide +kernel), wi_X7_type, wx_X7_type, ⟨_, rfl, rfl⟩⟩
theorem v_L_17 : VL RL 17 7 yX8_type cX8_type 2 (some .int) 1 := ⟨⟨w_X8_type, iz_X8, by decide +kernel⟩, tb_mem 727 (by decide +kernel) (by decide +kernel), wi_X8_type, wx_X8_type, ⟨_, rfl, rfl⟩⟩
theorem v_L_18 : VL RL 18 6 yX7_clear cX7_clear 2 (some .int) 0 := ⟨⟨w_X7_clear, iz_X7, by decide +kernel⟩, tb_mem 294 (by decide +kernel) (by decide +kernel), wi_X7_clear, wx_X7_clear, ⟨_, rfl, rfl⟩⟩
theorem v_L_22 : VL RL 22 7 yX8_clear cX8_clear 2 (some .int) 0 := ⟨⟨w_X8_clear, iz_X8, by decide +kernel⟩, tb_mem 735 (by decide +kernel) (by decide +kernel), wi_X8_clear, wx_X8_clear, ⟨_, rfl, rfl⟩⟩
theorem v_L_23 : VL RL 23 6 yX7_adds cX7_adds 3 (some .int) 0 := ⟨⟨w_X7_adds, iz_X7, by decide +kernel⟩, tb_mem 298 (by decide +kernel) (by decide +kernel), wi_X7_adds, wx_X7_adds, ⟨_, rfl, rfl⟩⟩
theorem v_L_26 : VL RL 26 7 yX8_adds cX8_adds 3 (some .int) 0 := ⟨⟨w_X8_adds, iz_X8, by decide +kernel⟩, tb_mem 888 (by decide +kernel) (by decide +kernel), wi_X8_adds, wx_X8_adds, ⟨_, rfl, rfl⟩⟩
theorem v_L_27 : VL RL 27 6 yX7_drops cX7_drops 2 (some .int) 1 := ⟨⟨w_X7_drops, iz_X7, by decide +kernel⟩, tb_mem 457 (by decide +kernel) (by decide +kernel), wi_X7_drops, wx_X7_drops, ⟨_, rfl, rfl⟩⟩
theorem v_L_30 : VL RL 30 7 yX8_drops cX8_drops 3 (some .int) 1 := ⟨⟨w_X8_drops, iz_X8, by decide +kernel⟩, tb_mem 936 (by decide +kernel) (by decide +kernel), wi_X8_drops, wx_X8_drops, ⟨_, rfl, rfl⟩⟩
theorem v_L_31 : VL RL 31 6 yX7_feeds cX7_feeds 2 (some .int) 1 := ⟨⟨w_X7_feeds, iz_X7, by decide +kernel⟩, tb_mem 473 (by decide +kernel) (by decide +kernel), wi_X7_feeds, wx_X7_feeds, ⟨_, rfl, rfl⟩⟩
theorem v_L_34 : VL RL 34 7 yX8_feeds cX8_feeds 2 (some .int) 1 := ⟨⟨w_X8_feeds, iz_X8, by decide +kernel⟩, tb_mem 944 (by decide +kernel) (by decide +kernel), wi_X8_feeds, wx_X8_feeds, ⟨_, rfl, rfl⟩⟩
theorem v_L_35 : VL RL 35 6 yX7_cuts cX7_cuts 2 (some .int) 0 := ⟨⟨w_X7_cuts, iz_X7, by decide +kernel⟩, tb_mem 478 (by decide +kernel) (by decide +kernel), wi_X7_cuts, wx_X7_cuts, ⟨_, rfl, rfl⟩⟩
theorem v_L_38 : VL RL 38 7 yX8_cuts cX8_cuts 2 (some .int) 0 := ⟨⟨w_X8_cuts, iz_X8, by decide +kernel⟩, tb_mem 953 (by decide +kernel) (by decide +kernel), wi_X8_cuts, wx_X8_cuts, ⟨_, rfl, rfl⟩⟩
theorem v_L_39 : VL RL 39 6 yX7_undo cX7_undo 1 (some .int) 0 := ⟨⟨w_X7_undo, iz_X7, by decide +kernel⟩, tb_mem 482 (by decide +kernel) (by decide +kernel), wi_X7_undo, wx_X7_undo, ⟨_, rfl, rfl⟩⟩
theorem v_L_42 : VL RL 42 7 yX8_undo cX8_undo 2 (some .int) 0 := ⟨⟨w_X8_undo, iz_X8, by decide +kernel⟩, tb_mem 957 (by decide +kernel) (by decide +kernel), wi_X8_undo, wx_X8_undo, ⟨_, rfl, rfl⟩⟩
theorem v_L_43 : VL RL 43 6 yX7_query cX7_query 3 (some .int) 2 := ⟨⟨w_X7_query, iz_X7, by decide +kernel⟩, tb_mem 490 (by decide +kernel) (by decide +kernel), wi_X7_query, wx_X7_query, ⟨_, rfl, rfl⟩⟩
theorem v_L_47 : VL RL 47 7 yX8_query cX8_query 3 (some .int) 2 := ⟨⟨w_X8_query, iz_X8, by decide +kernel⟩, tb_mem 961 (by decide +kernel) (by decide +kernel), wi_X8_query, wx_X8_query, ⟨_, rfl, rfl⟩⟩
theorem v_L_48 : VL RL 48 6 yX7_part cX7_part 5 (some .int) 3 := ⟨⟨w_X7_part, iz_X7, by decide +kernel⟩, tb_mem 527 (by decide +kernel) (by decide +kernel), wi_X7_part, wx_X7_part, ⟨_, rfl, rfl⟩⟩
theorem v_L_52 : VL RL 52 7 yX8_part cX8_part 5 (some .int) 3 := ⟨⟨w_X8_part, iz_X8, by decide +kernel⟩, tb_mem 1000 (by decide +kernel) (by decide +kernel), wi_X8_part, wx_X8_part, ⟨_, rfl, rfl⟩⟩
theorem v_L_53 : VL RL 53 6 yX7_shortest cX7_shortest 5 (some .int) 2 := ⟨⟨w_X7_shortest, iz_X7, by decide +kernel⟩, tb_mem 531 (by decide +kernel) (by decide +kernel), wi_X7_shortest, wx_X7_shortest, ⟨_, rfl, rfl⟩⟩
theorem v_L_56 : VL RL 56 7 yX8_shortest cX8_shortest 5 (some .int) 2 := ⟨⟨w_X8_shortest, iz_X8, by decide +kernel⟩, tb_mem 1004 (by decide +kernel) (by decide +kernel), wi_X8_shortest, wx_X8_shortest, ⟨_, rfl, rfl⟩⟩
theorem v_L_57 : VL RL 57 6 yX7_more cX7_more 3 (some .int) 1 := ⟨⟨w_X7_more, iz_X7, by decide +kernel⟩, tb_mem 631 (by decide +kernel) (by decide +kernel), wi_X7_more, wx_X7_more, ⟨_, rfl, rfl⟩⟩
theorem v_L_60 : VL RL 60 7 yX8_more cX8_more 4 (some .int) 1 := ⟨⟨w_X8_more, iz_X8, by decide +kernel⟩, tb_mem 1033 (by decide +kernel) (by decide +kernel), wi_X8_more, wx_X8_more, ⟨_, rfl, rfl⟩⟩
theorem v_L_61 : VL RL 61 6 yX7_many cX7_many 3 (some .long) 2 := ⟨⟨w_X7_many, iz_X7, by decide +kernel⟩, tb_mem 639 (by decide +kernel) (by decide +kernel), wi_X7_many, wx_X7_many, ⟨_, rfl, rfl⟩⟩
theorem v_L_65 : VL RL 65 7 yX8_many cX8_many 7 (some .long) 2 := ⟨⟨w_X8_many, iz_X8, by decide +kernel⟩, tb_mem 1037 (by decide +kernel) (by decide +kernel), wi_X8_many, wx_X8_many, ⟨_, rfl, rfl⟩⟩
theorem v_L_66 : VL RL 66 6 yX7_word cX7_word 5 (some .int) 2 := ⟨⟨w_X7_word, iz_X7, by decide +kernel⟩, tb_mem 652 (by decide +kernel) (by decide +kernel), wi_X7_word, wx_X7_word, ⟨_, rfl, rfl⟩⟩
theorem v_L_69 : VL RL 69 7 yX8_word cX8_word 4 (some .int) 2 := ⟨⟨w_X8_word, iz_X8, by decide +kernel⟩, tb_mem 1043 (by decide +kernel) (by decide +kernel), wi_X8_word, wx_X8_word, ⟨_, rfl, rfl⟩⟩
theorem v_L_70 : VL RL 70 6 yX7_hit cX7_hit 3 (some .int) 2 := ⟨⟨w_X7_hit, iz_X7, by decide +kernel⟩, tb_mem 661 (by decide +kernel) (by decide +kernel), wi_X7_hit, wx_X7_hit, ⟨_, rfl, rfl⟩⟩
theorem v_L_73 : VL RL 73 7 yX8_hit cX8_hit 5 (some .int) 2 := ⟨⟨w_X8_hit, iz_X8, by decide +kernel⟩, tb_mem 1047 (by decide +kernel) (by decide +kernel), wi_X8_hit, wx_X8_hit, ⟨_, rfl, rfl⟩⟩
theorem v_L_74 : VL RL 74 6 yX7_node cX7_node 3 (some .int) 2 := ⟨⟨w_X7_node, iz_X7, by decide +kernel⟩, tb_mem 674 (by decide +kernel) (by decide +kernel), wi_X7_node, wx_X7_node, ⟨_, rfl, rfl⟩⟩
theorem v_L_77 : VL RL 77 7 yX8_node cX8_node 4 (some .int) 2 := ⟨⟨w_X8_node, iz_X8, by decide +kernel⟩, tb_mem 1051 (by decide +kernel) (by decide +kernel), wi_X8_node, wx_X8_node, ⟨_, rfl, rfl⟩⟩
theorem v_L_78 : VL RL 78 6 yX7_next cX7_next 3 (some .int) 2 := ⟨⟨w_X7_next, iz_X7, by decide +kernel⟩, tb_mem 682 (by decide +kernel) (by decide +kernel), wi_X7_next, wx_X7_next, ⟨_, rfl, rfl⟩⟩
theorem v_L_81 : VL RL 81 7 yX8_next cX8_next 3 (some .int) 2 := ⟨⟨w_X8_next, iz_X8, by decide +kernel⟩, tb_mem 1055 (by decide +kernel) (by decide +kernel), wi_X8_next, wx_X8_next, ⟨_, rfl, rfl⟩⟩
theorem v_L_82 : VL RL 82 6 yX7_letter cX7_letter 2 (some .int) 1 := ⟨⟨w_X7_letter, iz_X7, by decide +kernel⟩, tb_mem 686 (by decide +kernel) (by decide +kernel), wi_X7_letter, wx_X7_letter, ⟨_, rfl, rfl⟩⟩
theorem v_L_85 : VL RL 85 7 yX8_letter cX8_letter 2 (some .int) 1 := ⟨⟨w_X8_letter, iz_X8, by decide +kernel⟩, tb_mem 1059 (by decide +kernel) (by decide +kernel), wi_X8_letter, wx_X8_letter, ⟨_, rfl, rfl⟩⟩
theorem v_L_86 : VL RL 86 6 yX7_now cX7_now 2 (some .int) 1 := ⟨⟨w_X7_now, iz_X7, by decide +kernel⟩, tb_mem 690 (by decide +kernel) (by decide +kernel), wi_X7_now, wx_X7_now, ⟨_, rfl, rfl⟩⟩
theorem v_L_89 : VL RL 89 7 yX8_now cX8_now 7 (some .int) 1 := ⟨⟨w_X8_now, iz_X8, by decide +kernel⟩, tb_mem 1063 (by decide +kernel) (by decide +kernel), wi_X8_now, wx_X8_now, ⟨_, rfl, rfl⟩⟩
theorem v_L_90 : VL RL 90 6 yX7_keep cX7_keep 3 (some .int) 1 := ⟨⟨w_X7_keep, iz_X7, by decide +kernel⟩, tb_mem 711 (by decide +kernel) (by decide +kernel), wi_X7_keep, wx_X7_keep, ⟨_, rfl, rfl⟩⟩
theorem v_L_93 : VL RL 93 7 yX8_keep cX8_keep 3 (some .int) 1 := ⟨⟨w_X8_keep, iz_X8, by decide +kernel⟩, tb_mem 1072 (by decide +kernel) (by decide +kernel), wi_X8_keep, wx_X8_keep, ⟨_, rfl, rfl⟩⟩
theorem v_L_94 : VL RL 94 6 yX7_back cX7_back 3 (some .int) 1 := ⟨⟨w_X7_back, iz_X7, by decide +kernel⟩, tb_mem 715 (by decide +kernel) (by decide +kernel), wi_X7_back, wx_X7_back, ⟨_, rfl, rfl⟩⟩
theorem v_L_97 : VL RL 97 7 yX8_back cX8_back 3 (some .int) 1 := ⟨⟨w_X8_back, iz_X8, by decide +kernel⟩, tb_mem 1076 (by decide +kernel) (by decide +kernel), wi_X8_back, wx_X8_back, ⟨_, rfl, rfl⟩⟩
theorem v_L_98 : VL RL 98 6 yX7_count cX7_count 2 (some .int) 1 := ⟨⟨w_X7_count, iz_X7, by decide +kernel⟩, tb_mem 723 (by decide +kernel) (by decide +kernel), wi_X7_count, wx_X7_count, ⟨_, rfl, rfl⟩⟩
theorem v_L_101 : VL RL 101 7 yX8_count cX8_count 2 (some .int) 1 := ⟨⟨w_X8_count, iz_X8, by decide +kernel⟩, tb_mem 1080 (by decide +kernel) (by decide +kernel), wi_X8_count, wx_X8_count, ⟨_, rfl, rfl⟩⟩
theorem v_X0_43 : VL RX0 43 0 yX0_growTo cX0_growTo 7 none 2 := ⟨⟨w_X0_growTo, iz_X0, by decide +kernel⟩, tb_mem 426 (by decide +kernel) (by decide +kernel), wi_X0_growTo, wx_X0_growTo, ⟨_, rfl, rfl⟩⟩
theorem v_X0_47 : VL RX0 47 0 yX0_link cX0_link 5 none 0 := ⟨⟨w_X0_link, iz_X0, by decide +kernel⟩, tb_mem 446 (by decide +kernel) (by decide +kernel), wi_X0_link, wx_X0_link, ⟨_, rfl, rfl⟩⟩
theorem v_X0_71 : VL RX0 71 0 yX0_addNode cX0_addNode 4 none 3 := ⟨⟨w_X0_addNode, iz_X0, by decide +kernel⟩, tb_mem 442 (by decide +kernel) (by decide +kernel), wi_X0_addNode, wx_X0_addNode, ⟨_, rfl, rfl⟩⟩
theorem v_X1_43 : VL RX1 43 1 yX1_partsOfLast cX1_partsOfLast 1 (some .int) 0 := ⟨⟨w_X1_partsOfLast, iz_X1, by decide +kernel⟩, tb_mem 394 (by decide +kernel) (by decide +kernel), wi_X1_partsOfLast, wx_X1_partsOfLast, ⟨_, rfl, rfl⟩⟩
theorem v_X1_47 : VL RX1 47 1 yX1_place cX1_place 3 (some .int) 2 := ⟨⟨w_X1_place, iz_X1, by decide +kernel⟩, tb_mem 395 (by decide +kernel) (by decide +kernel), wi_X1_place, wx_X1_place, ⟨_, rfl, rfl⟩⟩
theorem v_X1_51 : VL RX1 51 1 yX1_movePart cX1_movePart 3 none 2 := ⟨⟨w_X1_movePart, iz_X1, by decide +kernel⟩, tb_mem 469 (by decide +kernel) (by decide +kernel), wi_X1_movePart, wx_X1_movePart, ⟨_, rfl, rfl⟩⟩
theorem v_X2_22 : VL RX2 22 1 yX1_take cX1_take 2 none 1 := ⟨⟨w_X1_take, iz_X1, by decide +kernel⟩, tb_mem 409 (by decide +kernel) (by decide +kernel), wi_X1_take, wx_X1_take, ⟨_, rfl, rfl⟩⟩
theorem v_X4_44 : VL RX4 44 5 yX6_gatherOne cX6_gatherOne 3 none 2 := ⟨⟨w_X6_gatherOne, iz_X6, by decide +kernel⟩, tb_mem 593 (by decide +kernel) (by decide +kernel), wi_X6_gatherOne, wx_X6_gatherOne, ⟨_, rfl, rfl⟩⟩
theorem v_X4_48 : VL RX4 48 0 yX0_build cX0_build 3 none 1 := ⟨⟨w_X0_build, iz_X0, by decide +kernel⟩, tb_mem 597 (by decide +kernel) (by decide +kernel), wi_X0_build, wx_X0_build, ⟨_, rfl, rfl⟩⟩
theorem v_X4_70 : VL RX4 70 1 yX1_place cX1_place 3 (some .int) 2 := ⟨⟨w_X1_place, iz_X1, by decide +kernel⟩, tb_mem 599 (by decide +kernel) (by decide +kernel), wi_X1_place, wx_X1_place, ⟨_, rfl, rfl⟩⟩
theorem v_X4_80 : VL RX4 80 3 yX4_markNodes cX4_markNodes 5 none 2 := ⟨⟨w_X4_markNodes, iz_X4, by decide +kernel⟩, tb_mem 600 (by decide +kernel) (by decide +kernel), wi_X4_markNodes, wx_X4_markNodes, ⟨_, rfl, rfl⟩⟩
theorem v_X4_106 : VL RX4 106 5 yX6_find cX6_find 3 (some .int) 1 := ⟨⟨w_X6_find, iz_X6, by decide +kernel⟩, tb_mem 604 (by decide +kernel) (by decide +kernel), wi_X6_find, wx_X6_find, ⟨_, rfl, rfl⟩⟩
theorem v_X4_116 : VL RX4 116 3 yX4_stepNear cX4_stepNear 3 (some .int) 2 := ⟨⟨w_X4_stepNear, iz_X4, by decide +kernel⟩, tb_mem 622 (by decide +kernel) (by decide +kernel), wi_X4_stepNear, wx_X4_stepNear, ⟨_, rfl, rfl⟩⟩
theorem v_X4_125 : VL RX4 125 3 yX4_step cX4_step 8 (some .int) 2 := ⟨⟨w_X4_step, iz_X4, by decide +kernel⟩, tb_mem 618 (by decide +kernel) (by decide +kernel), wi_X4_step, wx_X4_step, ⟨_, rfl, rfl⟩⟩
theorem v_X4_131 : VL RX4 131 3 yX4_isMatch cX4_isMatch 2 (some .boolean) 1 := ⟨⟨w_X4_isMatch, iz_X4, by decide +kernel⟩, tb_mem 610 (by decide +kernel) (by decide +kernel), wi_X4_isMatch, wx_X4_isMatch, ⟨_, rfl, rfl⟩⟩
theorem v_X4_135 : VL RX4 135 3 yX4_spread cX4_spread 6 (some .int) 2 := ⟨⟨w_X4_spread, iz_X4, by decide +kernel⟩, tb_mem 614 (by decide +kernel) (by decide +kernel), wi_X4_spread, wx_X4_spread, ⟨_, rfl, rfl⟩⟩
theorem v_X4_141 : VL RX4 141 3 yX4_lengthenRows cX4_lengthenRows 4 none 0 := ⟨⟨w_X4_lengthenRows, iz_X4, by decide +kernel⟩, tb_mem 648 (by decide +kernel) (by decide +kernel), wi_X4_lengthenRows, wx_X4_lengthenRows, ⟨_, rfl, rfl⟩⟩
theorem v_X5_35 : VL RX5 35 1 yX1_take cX1_take 2 none 1 := ⟨⟨w_X1_take, iz_X1, by decide +kernel⟩, tb_mem 306 (by decide +kernel) (by decide +kernel), wi_X1_take, wx_X1_take, ⟨_, rfl, rfl⟩⟩
theorem v_X5_45 : VL RX5 45 5 yX6_gatherAll cX6_gatherAll 3 none 1 := ⟨⟨w_X6_gatherAll, iz_X6, by decide +kernel⟩, tb_mem 313 (by decide +kernel) (by decide +kernel), wi_X6_gatherAll, wx_X6_gatherAll, ⟨_, rfl, rfl⟩⟩
theorem v_X5_51 : VL RX5 51 4 yX5_advance cX5_advance 1 none 0 := ⟨⟨w_X5_advance, iz_X5, by decide +kernel⟩, tb_mem 333 (by decide +kernel) (by decide +kernel), wi_X5_advance, wx_X5_advance, ⟨_, rfl, rfl⟩⟩
theorem v_X5_57 : VL RX5 57 4 yX5_readItem cX5_readItem 1 (some .boolean) 0 := ⟨⟨w_X5_readItem, iz_X5, by decide +kernel⟩, tb_mem 340 (by decide +kernel) (by decide +kernel), wi_X5_readItem, wx_X5_readItem, ⟨_, rfl, rfl⟩⟩
theorem v_X5_64 : VL RX5 64 4 yX5_lacksParts cX5_lacksParts 1 (some .boolean) 0 := ⟨⟨w_X5_lacksParts, iz_X5, by decide +kernel⟩, tb_mem 348 (by decide +kernel) (by decide +kernel), wi_X5_lacksParts, wx_X5_lacksParts, ⟨_, rfl, rfl⟩⟩
theorem v_X5_67 : VL RX5 67 4 yX5_hasOpenQuery cX5_hasOpenQuery 1 (some .boolean) 0 := ⟨⟨w_X5_hasOpenQuery, iz_X5, by decide +kernel⟩, tb_mem 352 (by decide +kernel) (by decide +kernel), wi_X5_hasOpenQuery, wx_X5_hasOpenQuery, ⟨_, rfl, rfl⟩⟩
theorem v_X5_70 : VL RX5 70 1 yX1_partsOfLast cX1_partsOfLast 1 (some .int) 0 := ⟨⟨w_X1_partsOfLast, iz_X1, by decide +kernel⟩, tb_mem 356 (by decide +kernel) (by decide +kernel), wi_X1_partsOfLast, wx_X1_partsOfLast, ⟨_, rfl, rfl⟩⟩
theorem v_X5_74 : VL RX5 74 4 yX5_readQuery cX5_readQuery 1 (some .boolean) 0 := ⟨⟨w_X5_readQuery, iz_X5, by decide +kernel⟩, tb_mem 344 (by decide +kernel) (by decide +kernel), wi_X5_readQuery, wx_X5_readQuery, ⟨_, rfl, rfl⟩⟩
theorem v_X5_77 : VL RX5 77 4 yX5_readPart cX5_readPart 3 (some .boolean) 1 := ⟨⟨w_X5_readPart, iz_X5, by decide +kernel⟩, tb_mem 368 (by decide +kernel) (by decide +kernel), wi_X5_readPart, wx_X5_readPart, ⟨_, rfl, rfl⟩⟩
theorem v_X5_81 : VL RX5 81 4 yX5_readNear cX5_readNear 3 (some .boolean) 0 := ⟨⟨w_X5_readNear, iz_X5, by decide +kernel⟩, tb_mem 396 (by decide +kernel) (by decide +kernel), wi_X5_readNear, wx_X5_readNear, ⟨_, rfl, rfl⟩⟩
theorem v_X5_84 : VL RX5 84 1 yX1_startQuery cX1_startQuery 1 (some .boolean) 0 := ⟨⟨w_X1_startQuery, iz_X1, by decide +kernel⟩, tb_mem 360 (by decide +kernel) (by decide +kernel), wi_X1_startQuery, wx_X1_startQuery, ⟨_, rfl, rfl⟩⟩
theorem v_X5_87 : VL RX5 87 4 yX5_readStop cX5_readStop 1 (some .boolean) 0 := ⟨⟨w_X5_readStop, iz_X5, by decide +kernel⟩, tb_mem 364 (by decide +kernel) (by decide +kernel), wi_X5_readStop, wx_X5_readStop, ⟨_, rfl, rfl⟩⟩
theorem v_X5_90 : VL RX5 90 4 yX5_mayHavePart cX5_mayHavePart 1 (some .boolean) 0 := ⟨⟨w_X5_mayHavePart, iz_X5, by decide +kernel⟩, tb_mem 372 (by decide +kernel) (by decide +kernel), wi_X5_mayHavePart, wx_X5_mayHavePart, ⟨_, rfl, rfl⟩⟩
theorem v_X5_93 : VL RX5 93 4 yX5_readWord cX5_readWord 3 (some .int) 0 := ⟨⟨w_X5_readWord, iz_X5, by decide +kernel⟩, tb_mem 376 (by decide +kernel) (by decide +kernel), wi_X5_readWord, wx_X5_readWord, ⟨_, rfl, rfl⟩⟩
theorem v_X5_98 : VL RX5 98 1 yX1_addPart cX1_addPart 6 none 4 := ⟨⟨w_X1_addPart, iz_X1, by decide +kernel⟩, tb_mem 390 (by decide +kernel) (by decide +kernel), wi_X1_addPart, wx_X1_addPart, ⟨_, rfl, rfl⟩⟩
theorem v_X5_102 : VL RX5 102 1 yX1_lastHasNear cX1_lastHasNear 2 (some .boolean) 0 := ⟨⟨w_X1_lastHasNear, iz_X1, by decide +kernel⟩, tb_mem 400 (by decide +kernel) (by decide +kernel), wi_X1_lastHasNear, wx_X1_lastHasNear, ⟨_, rfl, rfl⟩⟩
theorem v_X5_112 : VL RX5 112 5 yX6_put cX6_put 3 (some .boolean) 1 := ⟨⟨w_X6_put, iz_X6, by decide +kernel⟩, tb_mem 389 (by decide +kernel) (by decide +kernel), wi_X6_put, wx_X6_put, ⟨_, rfl, rfl⟩⟩
theorem v_X6_19 : VL RX6 19 5 yX6_find cX6_find 3 (some .int) 1 := ⟨⟨w_X6_find, iz_X6, by decide +kernel⟩, tb_mem 329 (by decide +kernel) (by decide +kernel), wi_X6_find, wx_X6_find, ⟨_, rfl, rfl⟩⟩
theorem v_X6_28 : VL RX6 28 5 yX6_putWordsOf cX6_putWordsOf 5 none 2 := ⟨⟨w_X6_putWordsOf, iz_X6, by decide +kernel⟩, tb_mem 317 (by decide +kernel) (by decide +kernel), wi_X6_putWordsOf, wx_X6_putWordsOf, ⟨_, rfl, rfl⟩⟩
theorem v_X6_35 : VL RX6 35 1 yX1_place cX1_place 3 (some .int) 2 := ⟨⟨w_X1_place, iz_X1, by decide +kernel⟩, tb_mem 321 (by decide +kernel) (by decide +kernel), wi_X1_place, wx_X1_place, ⟨_, rfl, rfl⟩⟩
theorem v_X6_42 : VL RX6 42 5 yX6_put cX6_put 3 (some .boolean) 1 := ⟨⟨w_X6_put, iz_X6, by decide +kernel⟩, tb_mem 325 (by decide +kernel) (by decide +kernel), wi_X6_put, wx_X6_put, ⟨_, rfl, rfl⟩⟩
theorem v_X7_54 : VL RX7 54 4 yX5_append cX5_append 2 (some .boolean) 1 := ⟨⟨w_X5_append, iz_X5, by decide +kernel⟩, tb_mem 290 (by decide +kernel) (by decide +kernel), wi_X5_append, wx_X5_append, ⟨_, rfl, rfl⟩⟩
theorem v_X7_62 : VL RX7 62 4 yX5_readBehind cX5_readBehind 3 (some .int) 1 := ⟨⟨w_X5_readBehind, iz_X5, by decide +kernel⟩, tb_mem 302 (by decide +kernel) (by decide +kernel), wi_X5_readBehind, wx_X5_readBehind, ⟨_, rfl, rfl⟩⟩
theorem v_X7_72 : VL RX7 72 2 yX2_push cX2_push 3 none 1 := ⟨⟨w_X2_push, iz_X2, by decide +kernel⟩, tb_mem 404 (by decide +kernel) (by decide +kernel), wi_X2_push, wx_X2_push, ⟨_, rfl, rfl⟩⟩
theorem v_X7_76 : VL RX7 76 1 yX1_take cX1_take 2 none 1 := ⟨⟨w_X1_take, iz_X1, by decide +kernel⟩, tb_mem 413 (by decide +kernel) (by decide +kernel), wi_X1_take, wx_X1_take, ⟨_, rfl, rfl⟩⟩
theorem v_X7_79 : VL RX7 79 6 yX7_rebuild cX7_rebuild 1 none 0 := ⟨⟨w_X7_rebuild, iz_X7, by decide +kernel⟩, tb_mem 414 (by decide +kernel) (by decide +kernel), wi_X7_rebuild, wx_X7_rebuild, ⟨_, rfl, rfl⟩⟩
theorem v_X7_82 : VL RX7 82 6 yX7_isQuery cX7_isQuery 2 (some .boolean) 1 := ⟨⟨w_X7_isQuery, iz_X7, by decide +kernel⟩, tb_mem 461 (by decide +kernel) (by decide +kernel), wi_X7_isQuery, wx_X7_isQuery, ⟨_, rfl, rfl⟩⟩
theorem v_X7_85 : VL RX7 85 1 yX1_dropQuery cX1_dropQuery 4 none 1 := ⟨⟨w_X1_dropQuery, iz_X1, by decide +kernel⟩, tb_mem 465 (by decide +kernel) (by decide +kernel), wi_X1_dropQuery, wx_X1_dropQuery, ⟨_, rfl, rfl⟩⟩
theorem v_X7_98 : VL RX7 98 6 yX7_walk cX7_walk 4 none 0 := ⟨⟨w_X7_walk, iz_X7, by decide +kernel⟩, tb_mem 450 (by decide +kernel) (by decide +kernel), wi_X7_walk, wx_X7_walk, ⟨_, rfl, rfl⟩⟩
theorem v_X7_104 : VL RX7 104 2 yX2_popInto cX2_popInto 3 (some .boolean) 1 := ⟨⟨w_X2_popInto, iz_X2, by decide +kernel⟩, tb_mem 486 (by decide +kernel) (by decide +kernel), wi_X2_popInto, wx_X2_popInto, ⟨_, rfl, rfl⟩⟩
theorem v_X7_114 : VL RX7 114 6 yX7_matches cX7_matches 4 (some .boolean) 2 := ⟨⟨w_X7_matches, iz_X7, by decide +kernel⟩, tb_mem 494 (by decide +kernel) (by decide +kernel), wi_X7_matches, wx_X7_matches, ⟨_, rfl, rfl⟩⟩
theorem v_X7_118 : VL RX7 118 6 yX7_since cX7_since 3 (some .int) 1 := ⟨⟨w_X7_since, iz_X7, by decide +kernel⟩, tb_mem 511 (by decide +kernel) (by decide +kernel), wi_X7_since, wx_X7_since, ⟨_, rfl, rfl⟩⟩
theorem v_X7_122 : VL RX7 122 6 yX7_keyOf cX7_keyOf 5 (some .int) 1 := ⟨⟨w_X7_keyOf, iz_X7, by decide +kernel⟩, tb_mem 515 (by decide +kernel) (by decide +kernel), wi_X7_keyOf, wx_X7_keyOf, ⟨_, rfl, rfl⟩⟩
theorem v_X7_125 : VL RX7 125 5 yX6_find cX6_find 3 (some .int) 1 := ⟨⟨w_X6_find, iz_X6, by decide +kernel⟩, tb_mem 507 (by decide +kernel) (by decide +kernel), wi_X6_find, wx_X6_find, ⟨_, rfl, rfl⟩⟩
theorem v_X7_128 : VL RX7 128 6 yX7_isAsked cX7_isAsked 3 (some .boolean) 1 := ⟨⟨w_X7_isAsked, iz_X7, by decide +kernel⟩, tb_mem 523 (by decide +kernel) (by decide +kernel), wi_X7_isAsked, wx_X7_isAsked, ⟨_, rfl, rfl⟩⟩
theorem v_X7_131 : VL RX7 131 1 yX1_place cX1_place 3 (some .int) 2 := ⟨⟨w_X1_place, iz_X1, by decide +kernel⟩, tb_mem 498 (by decide +kernel) (by decide +kernel), wi_X1_place, wx_X1_place, ⟨_, rfl, rfl⟩⟩
theorem v_X7_147 : VL RX7 147 6 yX7_holds cX7_holds 5 (some .boolean) 2 := ⟨⟨w_X7_holds, iz_X7, by decide +kernel⟩, tb_mem 499 (by decide +kernel) (by decide +kernel), wi_X7_holds, wx_X7_holds, ⟨_, rfl, rfl⟩⟩
theorem v_X7_150 : VL RX7 150 6 yX7_searchFor cX7_searchFor 3 (some (.object RX4)) 1 := ⟨⟨w_X7_searchFor, iz_X7, by decide +kernel⟩, tb_mem 535 (by decide +kernel) (by decide +kernel), wi_X7_searchFor, wx_X7_searchFor, ⟨_, rfl, rfl⟩⟩
theorem v_X7_154 : VL RX7 154 3 yX4_fewestFrom cX4_fewestFrom 6 (some .int) 1 := ⟨⟨w_X4_fewestFrom, iz_X4, by decide +kernel⟩, tb_mem 606 (by decide +kernel) (by decide +kernel), wi_X4_fewestFrom, wx_X4_fewestFrom, ⟨_, rfl, rfl⟩⟩
theorem v_X7_159 : VL RX7 159 3 yX4_letterOfRow cX4_letterOfRow 5 (some .int) 2 := ⟨⟨w_X4_letterOfRow, iz_X4, by decide +kernel⟩, tb_mem 626 (by decide +kernel) (by decide +kernel), wi_X4_letterOfRow, wx_X4_letterOfRow, ⟨_, rfl, rfl⟩⟩
theorem v_X7_162 : VL RX7 162 3 yX4_stateBehind cX4_stateBehind 4 (some .int) 1 := ⟨⟨w_X4_stateBehind, iz_X4, by decide +kernel⟩, tb_mem 635 (by decide +kernel) (by decide +kernel), wi_X4_stateBehind, wx_X4_stateBehind, ⟨_, rfl, rfl⟩⟩
theorem v_X7_167 : VL RX7 167 3 yX4_rowsOf cX4_rowsOf 5 (some .long) 1 := ⟨⟨w_X4_rowsOf, iz_X4, by decide +kernel⟩, tb_mem 644 (by decide +kernel) (by decide +kernel), wi_X4_rowsOf, wx_X4_rowsOf, ⟨_, rfl, rfl⟩⟩
theorem v_X7_171 : VL RX7 171 6 yX7_isWord cX7_isWord 2 (some .boolean) 1 := ⟨⟨w_X7_isWord, iz_X7, by decide +kernel⟩, tb_mem 656 (by decide +kernel) (by decide +kernel), wi_X7_isWord, wx_X7_isWord, ⟨_, rfl, rfl⟩⟩
theorem v_X7_195 : VL RX7 195 6 yX7_isNode cX7_isNode 2 (some .boolean) 1 := ⟨⟨w_X7_isNode, iz_X7, by decide +kernel⟩, tb_mem 678 (by decide +kernel) (by decide +kernel), wi_X7_isNode, wx_X7_isNode, ⟨_, rfl, rfl⟩⟩
theorem v_X7_215 : VL RX7 215 6 yX7_matching cX7_matching 4 (some .int) 1 := ⟨⟨w_X7_matching, iz_X7, by decide +kernel⟩, tb_mem 694 (by decide +kernel) (by decide +kernel), wi_X7_matching, wx_X7_matching, ⟨_, rfl, rfl⟩⟩
theorem v_X7_218 : VL RX7 218 6 yX7_withoutLast cX7_withoutLast 1 (some .int) 0 := ⟨⟨w_X7_withoutLast, iz_X7, by decide +kernel⟩, tb_mem 698 (by decide +kernel) (by decide +kernel), wi_X7_withoutLast, wx_X7_withoutLast, ⟨_, rfl, rfl⟩⟩
theorem v_X7_222 : VL RX7 222 6 yX7_asked cX7_asked 3 (some .int) 0 := ⟨⟨w_X7_asked, iz_X7, by decide +kernel⟩, tb_mem 703 (by decide +kernel) (by decide +kernel), wi_X7_asked, wx_X7_asked, ⟨_, rfl, rfl⟩⟩
theorem v_X7_225 : VL RX7 225 6 yX7_allHits cX7_allHits 3 (some .int) 0 := ⟨⟨w_X7_allHits, iz_X7, by decide +kernel⟩, tb_mem 707 (by decide +kernel) (by decide +kernel), wi_X7_allHits, wx_X7_allHits, ⟨_, rfl, rfl⟩⟩
theorem v_X7_228 : VL RX7 228 2 yX2_forget cX2_forget 1 none 0 := ⟨⟨w_X2_forget, iz_X2, by decide +kernel⟩, tb_mem 719 (by decide +kernel) (by decide +kernel), wi_X2_forget, wx_X2_forget, ⟨_, rfl, rfl⟩⟩
theorem v_X7_237 : VL RX7 237 5 yX6_gatherAll cX6_gatherAll 3 none 1 := ⟨⟨w_X6_gatherAll, iz_X6, by decide +kernel⟩, tb_mem 418 (by decide +kernel) (by decide +kernel), wi_X6_gatherAll, wx_X6_gatherAll, ⟨_, rfl, rfl⟩⟩
theorem v_X7_240 : VL RX7 240 0 yX0_build cX0_build 3 none 1 := ⟨⟨w_X0_build, iz_X0, by decide +kernel⟩, tb_mem 419 (by decide +kernel) (by decide +kernel), wi_X0_build, wx_X0_build, ⟨_, rfl, rfl⟩⟩
theorem v_X7_250 : VL RX7 250 6 yX7_hitsOf cX7_hitsOf 3 (some .long) 1 := ⟨⟨w_X7_hitsOf, iz_X7, by decide +kernel⟩, tb_mem 503 (by decide +kernel) (by decide +kernel), wi_X7_hitsOf, wx_X7_hitsOf, ⟨_, rfl, rfl⟩⟩
theorem v_X7_270 : VL RX7 270 3 yX4_prepare cX4_prepare 6 none 2 := ⟨⟨w_X4_prepare, iz_X4, by decide +kernel⟩, tb_mem 589 (by decide +kernel) (by decide +kernel), wi_X4_prepare, wx_X4_prepare, ⟨_, rfl, rfl⟩⟩
theorem v_X8_23 : VL RX8 23 7 yX8_byteAt cX8_byteAt 2 (some .int) 1 := ⟨⟨w_X8_byteAt, iz_X8, by decide +kernel⟩, tb_mem 899 (by decide +kernel) (by decide +kernel), wi_X8_byteAt, wx_X8_byteAt, ⟨_, rfl, rfl⟩⟩
theorem v_X8_69 : VL RX8 69 7 yX8_addWord cX8_addWord 4 none 1 := ⟨⟨w_X8_addWord, iz_X8, by decide +kernel⟩, tb_mem 759 (by decide +kernel) (by decide +kernel), wi_X8_addWord, wx_X8_addWord, ⟨_, rfl, rfl⟩⟩
theorem v_X8_84 : VL RX8 84 7 yX8_nodeOf cX8_nodeOf 3 (some .int) 1 := ⟨⟨w_X8_nodeOf, iz_X8, by decide +kernel⟩, tb_mem 785 (by decide +kernel) (by decide +kernel), wi_X8_nodeOf, wx_X8_nodeOf, ⟨_, rfl, rfl⟩⟩
theorem v_X8_90 : VL RX8 90 7 yX8_layWords cX8_layWords 4 none 1 := ⟨⟨w_X8_layWords, iz_X8, by decide +kernel⟩, tb_mem 749 (by decide +kernel) (by decide +kernel), wi_X8_layWords, wx_X8_layWords, ⟨_, rfl, rfl⟩⟩
theorem v_X8_94 : VL RX8 94 7 yX8_addNode cX8_addNode 4 none 1 := ⟨⟨w_X8_addNode, iz_X8, by decide +kernel⟩, tb_mem 770 (by decide +kernel) (by decide +kernel), wi_X8_addNode, wx_X8_addNode, ⟨_, rfl, rfl⟩⟩
theorem v_X8_103 : VL RX8 103 7 yX8_longest cX8_longest 5 (some .int) 2 := ⟨⟨w_X8_longest, iz_X8, by decide +kernel⟩, tb_mem 778 (by decide +kernel) (by decide +kernel), wi_X8_longest, wx_X8_longest, ⟨_, rfl, rfl⟩⟩
theorem v_X8_144 : VL RX8 144 7 yX8_make cX8_make 5 none 0 := ⟨⟨w_X8_make, iz_X8, by decide +kernel⟩, tb_mem 745 (by decide +kernel) (by decide +kernel), wi_X8_make, wx_X8_make, ⟨_, rfl, rfl⟩⟩
theorem v_X8_147 : VL RX8 147 7 yX8_step cX8_step 2 none 0 := ⟨⟨w_X8_step, iz_X8, by decide +kernel⟩, tb_mem 895 (by decide +kernel) (by decide +kernel), wi_X8_step, wx_X8_step, ⟨_, rfl, rfl⟩⟩
theorem v_X8_150 : VL RX8 150 7 yX8_readWord cX8_readWord 4 (some .int) 0 := ⟨⟨w_X8_readWord, iz_X8, by decide +kernel⟩, tb_mem 927 (by decide +kernel) (by decide +kernel), wi_X8_readWord, wx_X8_readWord, ⟨_, rfl, rfl⟩⟩
theorem v_X8_156 : VL RX8 156 7 yX8_isName cX8_isName 2 (some .boolean) 1 := ⟨⟨w_X8_isName, iz_X8, by decide +kernel⟩, tb_mem 911 (by decide +kernel) (by decide +kernel), wi_X8_isName, wx_X8_isName, ⟨_, rfl, rfl⟩⟩
theorem v_X8_160 : VL RX8 160 7 yX8_isWhole cX8_isWhole 1 (some .boolean) 0 := ⟨⟨w_X8_isWhole, iz_X8, by decide +kernel⟩, tb_mem 915 (by decide +kernel) (by decide +kernel), wi_X8_isWhole, wx_X8_isWhole, ⟨_, rfl, rfl⟩⟩
theorem v_X8_164 : VL RX8 164 7 yX8_hasNear cX8_hasNear 4 (some .boolean) 1 := ⟨⟨w_X8_hasNear, iz_X8, by decide +kernel⟩, tb_mem 919 (by decide +kernel) (by decide +kernel), wi_X8_hasNear, wx_X8_hasNear, ⟨_, rfl, rfl⟩⟩
theorem v_X8_167 : VL RX8 167 7 yX8_readPart cX8_readPart 7 (some .boolean) 1 := ⟨⟨w_X8_readPart, iz_X8, by decide +kernel⟩, tb_mem 923 (by decide +kernel) (by decide +kernel), wi_X8_readPart, wx_X8_readPart, ⟨_, rfl, rfl⟩⟩
theorem v_X8_174 : VL RX8 174 7 yX8_readItem cX8_readItem 3 (some .boolean) 0 := ⟨⟨w_X8_readItem, iz_X8, by decide +kernel⟩, tb_mem 907 (by decide +kernel) (by decide +kernel), wi_X8_readItem, wx_X8_readItem, ⟨_, rfl, rfl⟩⟩
theorem v_X8_177 : VL RX8 177 7 yX8_keepAct cX8_keepAct 2 none 0 := ⟨⟨w_X8_keepAct, iz_X8, by decide +kernel⟩, tb_mem 932 (by decide +kernel) (by decide +kernel), wi_X8_keepAct, wx_X8_keepAct, ⟨_, rfl, rfl⟩⟩
theorem v_X8_183 : VL RX8 183 7 yX8_isQuery cX8_isQuery 2 (some .boolean) 1 := ⟨⟨w_X8_isQuery, iz_X8, by decide +kernel⟩, tb_mem 940 (by decide +kernel) (by decide +kernel), wi_X8_isQuery, wx_X8_isQuery, ⟨_, rfl, rfl⟩⟩
theorem v_X8_188 : VL RX8 188 7 yX8_nodeAt cX8_nodeAt 4 (some .int) 1 := ⟨⟨w_X8_nodeAt, iz_X8, by decide +kernel⟩, tb_mem 949 (by decide +kernel) (by decide +kernel), wi_X8_nodeAt, wx_X8_nodeAt, ⟨_, rfl, rfl⟩⟩
theorem v_X8_195 : VL RX8 195 7 yX8_numberOf cX8_numberOf 3 (some .int) 1 := ⟨⟨w_X8_numberOf, iz_X8, by decide +kernel⟩, tb_mem 977 (by decide +kernel) (by decide +kernel), wi_X8_numberOf, wx_X8_numberOf, ⟨_, rfl, rfl⟩⟩
theorem v_X8_198 : VL RX8 198 7 yX8_hits cX8_hits 5 (some .int) 2 := ⟨⟨w_X8_hits, iz_X8, by decide +kernel⟩, tb_mem 981 (by decide +kernel) (by decide +kernel), wi_X8_hits, wx_X8_hits, ⟨_, rfl, rfl⟩⟩
theorem v_X8_201 : VL RX8 201 7 yX8_holds cX8_holds 10 (some .boolean) 3 := ⟨⟨w_X8_holds, iz_X8, by decide +kernel⟩, tb_mem 973 (by decide +kernel) (by decide +kernel), wi_X8_holds, wx_X8_holds, ⟨_, rfl, rfl⟩⟩
theorem v_X8_205 : VL RX8 205 7 yX8_matches cX8_matches 5 (some .boolean) 2 := ⟨⟨w_X8_matches, iz_X8, by decide +kernel⟩, tb_mem 969 (by decide +kernel) (by decide +kernel), wi_X8_matches, wx_X8_matches, ⟨_, rfl, rfl⟩⟩
theorem v_X8_208 : VL RX8 208 7 yX8_key cX8_key 6 (some .int) 1 := ⟨⟨w_X8_key, iz_X8, by decide +kernel⟩, tb_mem 992 (by decide +kernel) (by decide +kernel), wi_X8_key, wx_X8_key, ⟨_, rfl, rfl⟩⟩
theorem v_X8_211 : VL RX8 211 7 yX8_layEnds cX8_layEnds 3 none 0 := ⟨⟨w_X8_layEnds, iz_X8, by decide +kernel⟩, tb_mem 965 (by decide +kernel) (by decide +kernel), wi_X8_layEnds, wx_X8_layEnds, ⟨_, rfl, rfl⟩⟩
theorem v_X8_214 : VL RX8 214 7 yX8_since cX8_since 3 (some .int) 1 := ⟨⟨w_X8_since, iz_X8, by decide +kernel⟩, tb_mem 988 (by decide +kernel) (by decide +kernel), wi_X8_since, wx_X8_since, ⟨_, rfl, rfl⟩⟩
theorem v_X8_217 : VL RX8 217 7 yX8_isAsked cX8_isAsked 3 (some .boolean) 1 := ⟨⟨w_X8_isAsked, iz_X8, by decide +kernel⟩, tb_mem 996 (by decide +kernel) (by decide +kernel), wi_X8_isAsked, wx_X8_isAsked, ⟨_, rfl, rfl⟩⟩
theorem v_X8_245 : VL RX8 245 7 yX8_isDone cX8_isDone 2 (some .boolean) 1 := ⟨⟨w_X8_isDone, iz_X8, by decide +kernel⟩, tb_mem 1023 (by decide +kernel) (by decide +kernel), wi_X8_isDone, wx_X8_isDone, ⟨_, rfl, rfl⟩⟩
theorem v_X8_250 : VL RX8 250 7 yX8_behind cX8_behind 8 (some .int) 3 := ⟨⟨w_X8_behind, iz_X8, by decide +kernel⟩, tb_mem 1028 (by decide +kernel) (by decide +kernel), wi_X8_behind, wx_X8_behind, ⟨_, rfl, rfl⟩⟩
theorem v_X8_255 : VL RX8 255 7 yX8_takes cX8_takes 5 none 1 := ⟨⟨w_X8_takes, iz_X8, by decide +kernel⟩, tb_mem 1008 (by decide +kernel) (by decide +kernel), wi_X8_takes, wx_X8_takes, ⟨_, rfl, rfl⟩⟩
theorem v_X8_258 : VL RX8 258 7 yX8_begins cX8_begins 1 (some .int) 0 := ⟨⟨w_X8_begins, iz_X8, by decide +kernel⟩, tb_mem 1012 (by decide +kernel) (by decide +kernel), wi_X8_begins, wx_X8_begins, ⟨_, rfl, rfl⟩⟩
theorem v_X8_261 : VL RX8 261 7 yX8_nearest cX8_nearest 9 (some .int) 2 := ⟨⟨w_X8_nearest, iz_X8, by decide +kernel⟩, tb_mem 1019 (by decide +kernel) (by decide +kernel), wi_X8_nearest, wx_X8_nearest, ⟨_, rfl, rfl⟩⟩
theorem v_X8_270 : VL RX8 270 7 yX8_allHits cX8_allHits 3 (some .int) 0 := ⟨⟨w_X8_allHits, iz_X8, by decide +kernel⟩, tb_mem 1068 (by decide +kernel) (by decide +kernel), wi_X8_allHits, wx_X8_allHits, ⟨_, rfl, rfl⟩⟩
theorem s_X0_37 : SL RX0 37 yJ7_fill_53178 cJ7_fill_53178 4 none 2 := ⟨⟨w_J7_fill_53178, iz_J7, by decide +kernel⟩, tb_mem 423 (by decide +kernel) (by decide +kernel), ws_J7_fill_53178⟩
theorem s_X0_60 : SL RX0 60 yX3_sizeOf cX3_sizeOf 3 (some .int) 1 := ⟨⟨w_X3_sizeOf, iz_X3, by decide +kernel⟩, tb_mem 430 (by decide +kernel) (by decide +kernel), ws_X3_sizeOf⟩
theorem s_X0_64 : SL RX0 64 yX3_headOf cX3_headOf 2 (some .int) 2 := ⟨⟨w_X3_headOf, iz_X3, by decide +kernel⟩, tb_mem 433 (by decide +kernel) (by decide +kernel), ws_X3_headOf⟩
theorem s_X0_68 : SL RX0 68 yX3_letterAt cX3_letterAt 2 (some .int) 2 := ⟨⟨w_X3_letterAt, iz_X3, by decide +kernel⟩, tb_mem 436 (by decide +kernel) (by decide +kernel), ws_X3_letterAt⟩
theorem s_X3_11 : SL RX3 11 yX3_shiftOf cX3_shiftOf 1 (some .int) 1 := ⟨⟨w_X3_shiftOf, iz_X3, by decide +kernel⟩, tb_mem 386 (by decide +kernel) (by decide +kernel), ws_X3_shiftOf⟩
theorem s_X4_52 : SL RX4 52 yJ7_fill_53178 cJ7_fill_53178 4 none 2 := ⟨⟨w_J7_fill_53178, iz_J7, by decide +kernel⟩, tb_mem 598 (by decide +kernel) (by decide +kernel), ws_J7_fill_53178⟩
theorem s_X5_105 : SLN RX5 105 yX7_isLetter cX7_isLetter 1 (some .boolean) 1 := ⟨⟨w_X7_isLetter, iz_X7, by decide +kernel⟩, ⟨_, nw_mem (w := Cond.methodLinkNest RX5 105 yX7_isLetter "StandingQueries") 380 (by decide +kernel) (by decide +kernel)⟩, ws_X7_isLetter⟩
theorem s_X5_108 : SL RX5 108 yX3_withLetter cX3_withLetter 3 (some .int) 3 := ⟨⟨w_X3_withLetter, iz_X3, by decide +kernel⟩, tb_mem 383 (by decide +kernel) (by decide +kernel), ws_X3_withLetter⟩
theorem s_X5_115 : SL RX5 115 yX5_kindOf cX5_kindOf 1 (some .int) 1 := ⟨⟨w_X5_kindOf, iz_X5, by decide +kernel⟩, tb_mem 337 (by decide +kernel) (by decide +kernel), ws_X5_kindOf⟩
theorem s_X7_88 : SL RX7 88 yX7_isLetter cX7_isLetter 1 (some .boolean) 1 := ⟨⟨w_X7_isLetter, iz_X7, by decide +kernel⟩, tb_mem 477 (by decide +kernel) (by decide +kernel), ws_X7_isLetter⟩
theorem s_X7_177 : SL RX7 177 yX3_sizeOf cX3_sizeOf 3 (some .int) 1 := ⟨⟨w_X3_sizeOf, iz_X3, by decide +kernel⟩, tb_mem 522 (by decide +kernel) (by decide +kernel), ws_X3_sizeOf⟩
theorem s_X7_182 : SL RX7 182 yX3_letterAt cX3_letterAt 2 (some .int) 2 := ⟨⟨w_X3_letterAt, iz_X3, by decide +kernel⟩, tb_mem 660 (by decide +kernel) (by decide +kernel), ws_X3_letterAt⟩
theorem s_X7_185 : SL RX7 185 yJ13_bitCount_95d88 cJ13_bitCount_95d88 2 (some .int) 1 := ⟨⟨w_J13_bitCount_95d88, iz_J13, by decide +kernel⟩, tb_mem 665 (by decide +kernel) (by decide +kernel), ws_J13_bitCount_95d88⟩
theorem s_X7_191 : SL RX7 191 yX7_placeOfBit cX7_placeOfBit 5 (some .int) 2 := ⟨⟨w_X7_placeOfBit, iz_X7, by decide +kernel⟩, tb_mem 671 (by decide +kernel) (by decide +kernel), ws_X7_placeOfBit⟩
theorem s_X7_244 : SL RX7 244 yJ7_fill_d0a16 cJ7_fill_d0a16 5 none 2 := ⟨⟨w_J7_fill_d0a16, iz_J7, by decide +kernel⟩, tb_mem 454 (by decide +kernel) (by decide +kernel), ws_J7_fill_d0a16⟩
theorem s_X7_253 : SL RX7 253 yX7_isNear cX7_isNear 6 (some .boolean) 3 := ⟨⟨w_X7_isNear, iz_X7, by decide +kernel⟩, tb_mem 508 (by decide +kernel) (by decide +kernel), ws_X7_isNear⟩
theorem s_X7_262 : SL RX7 262 yX7_isBetterKey cX7_isBetterKey 3 (some .boolean) 2 := ⟨⟨w_X7_isBetterKey, iz_X7, by decide +kernel⟩, tb_mem 519 (by decide +kernel) (by decide +kernel), ws_X7_isBetterKey⟩
theorem s_X8_9 : SL RX8 9 yX8_in cX8_in 6 (some .boolean) 3 := ⟨⟨w_X8_in, iz_X8, by decide +kernel⟩, tb_mem 732 (by decide +kernel) (by decide +kernel), ws_X8_in⟩
theorem s_X8_48 : SL RX8 48 yX8_letterOf cX8_letterOf 2 (some .int) 2 := ⟨⟨w_X8_letterOf, iz_X8, by decide +kernel⟩, tb_mem 767 (by decide +kernel) (by decide +kernel), ws_X8_letterOf⟩
theorem s_X8_58 : SL RX8 58 yX8_order cX8_order 6 (some .int) 2 := ⟨⟨w_X8_order, iz_X8, by decide +kernel⟩, tb_mem 763 (by decide +kernel) (by decide +kernel), ws_X8_order⟩
theorem s_X8_61 : SL RX8 61 yX8_parts cX8_parts 2 (some .int) 2 := ⟨⟨w_X8_parts, iz_X8, by decide +kernel⟩, tb_mem 753 (by decide +kernel) (by decide +kernel), ws_X8_parts⟩
theorem s_X8_65 : SL RX8 65 yX8_of cX8_of 4 (some .int) 4 := ⟨⟨w_X8_of, iz_X8, by decide +kernel⟩, tb_mem 756 (by decide +kernel) (by decide +kernel), ws_X8_of⟩
theorem s_X8_81 : SL RX8 81 yX8_lasts cX8_lasts 2 (some .int) 2 := ⟨⟨w_X8_lasts, iz_X8, by decide +kernel⟩, tb_mem 782 (by decide +kernel) (by decide +kernel), ws_X8_lasts⟩
theorem s_X8_97 : SL RX8 97 yX8_firsts cX8_firsts 2 (some .int) 2 := ⟨⟨w_X8_firsts, iz_X8, by decide +kernel⟩, tb_mem 774 (by decide +kernel) (by decide +kernel), ws_X8_firsts⟩
theorem s_X8_112 : SL RX8 112 yX8_withLetter cX8_withLetter 2 (some .int) 2 := ⟨⟨w_X8_withLetter, iz_X8, by decide +kernel⟩, tb_mem 789 (by decide +kernel) (by decide +kernel), ws_X8_withLetter⟩
theorem s_X8_170 : SL RX8 170 yX8_copyAll cX8_copyAll 3 none 2 := ⟨⟨w_X8_copyAll, iz_X8, by decide +kernel⟩, tb_mem 892 (by decide +kernel) (by decide +kernel), ws_X8_copyAll⟩
theorem s_X8_191 : SL RX8 191 yX8_has cX8_has 2 (some .boolean) 2 := ⟨⟨w_X8_has, iz_X8, by decide +kernel⟩, tb_mem 985 (by decide +kernel) (by decide +kernel), ws_X8_has⟩
theorem s_X8_238 : SL RX8 238 yX8_stateOf cX8_stateOf 3 (some .int) 3 := ⟨⟨w_X8_stateOf, iz_X8, by decide +kernel⟩, tb_mem 1016 (by decide +kernel) (by decide +kernel), ws_X8_stateOf⟩
theorem i_L_9 : IL RL 9 yX7_init cX7_init 1 0 := ⟨⟨w_X7_init, iz_X7, by decide +kernel⟩, tb_mem 84 (by decide +kernel) (by decide +kernel), wi_X7_init, rfl⟩
theorem i_L_12 : IL RL 12 yX8_init cX8_init 1 0 := ⟨⟨w_X8_init, iz_X8, by decide +kernel⟩, tb_mem 741 (by decide +kernel) (by decide +kernel), wi_X8_init, rfl⟩
theorem i_X2_21 : ILN RX2 21 yX1_init cX1_init 1 0 := ⟨⟨w_X1_init, iz_X1, by decide +kernel⟩, ⟨_, nw_mem (w := Cond.methodLinkNest RX2 21 yX1_init "StandingQueries") 408 (by decide +kernel) (by decide +kernel)⟩, wi_X1_init, rfl⟩
theorem i_X4_13 : IL RX4 13 yX6_init cX6_init 2 1 := ⟨⟨w_X6_init, iz_X6, by decide +kernel⟩, tb_mem 546 (by decide +kernel) (by decide +kernel), wi_X6_init, rfl⟩
theorem i_X4_22 : IL RX4 22 yX0_init cX0_init 3 1 := ⟨⟨w_X0_init, iz_X0, by decide +kernel⟩, tb_mem 548 (by decide +kernel) (by decide +kernel), wi_X0_init, rfl⟩
theorem i_X5_17 : ILN RX5 17 yX1_init cX1_init 1 0 := ⟨⟨w_X1_init, iz_X1, by decide +kernel⟩, ⟨_, nw_mem (w := Cond.methodLinkNest RX5 17 yX1_init "StandingQueries") 98 (by decide +kernel) (by decide +kernel)⟩, wi_X1_init, rfl⟩
theorem i_X5_24 : IL RX5 24 yX6_init cX6_init 2 1 := ⟨⟨w_X6_init, iz_X6, by decide +kernel⟩, tb_mem 151 (by decide +kernel) (by decide +kernel), wi_X6_init, rfl⟩
theorem i_X7_9 : ILN RX7 9 yX5_init cX5_init 1 0 := ⟨⟨w_X5_init, iz_X5, by decide +kernel⟩, ⟨_, nw_mem (w := Cond.methodLinkNest RX7 9 yX5_init "StandingQueries") 92 (by decide +kernel) (by decide +kernel)⟩, wi_X5_init, rfl⟩
theorem i_X7_18 : ILN RX7 18 yX1_init cX1_init 1 0 := ⟨⟨w_X1_init, iz_X1, by decide +kernel⟩, ⟨_, nw_mem (w := Cond.methodLinkNest RX7 18 yX1_init "StandingQueries") 194 (by decide +kernel) (by decide +kernel)⟩, wi_X1_init, rfl⟩
theorem i_X7_25 : ILN RX7 25 yX2_init cX2_init 1 0 := ⟨⟨w_X2_init, iz_X2, by decide +kernel⟩, ⟨_, nw_mem (w := Cond.methodLinkNest RX7 25 yX2_init "StandingQueries") 197 (by decide +kernel) (by decide +kernel)⟩, wi_X2_init, rfl⟩
theorem i_X7_36 : IL RX7 36 yX6_init cX6_init 2 1 := ⟨⟨w_X6_init, iz_X6, by decide +kernel⟩, tb_mem 215 (by decide +kernel) (by decide +kernel), wi_X6_init, rfl⟩
theorem i_X7_45 : IL RX7 45 yX0_init cX0_init 3 1 := ⟨⟨w_X0_init, iz_X0, by decide +kernel⟩, tb_mem 218 (by decide +kernel) (by decide +kernel), wi_X0_init, rfl⟩
theorem i_X7_269 : ILN RX7 269 yX4_init cX4_init 1 0 := ⟨⟨w_X4_init, iz_X4, by decide +kernel⟩, ⟨_, nw_mem (w := Cond.methodLinkNest RX7 269 yX4_init "StandingQueries") 541 (by decide +kernel) (by decide +kernel)⟩, wi_X4_init, rfl⟩
theorem n_L_10 : NL RL 10 7 := ⟨RX8, TX8, tyX8, rfl, u_in_X8, tyX8_ok, by decide, tb_mem 739 (by decide +kernel) (by decide +kernel), tb_mem 740 (by decide +kernel) (by decide +kernel), tb_mem 75 (by decide +kernel) (by decide +kernel)⟩
theorem n_L_7 : NL RL 7 6 := ⟨RX7, TX7, tyX7, rfl, u_in_X7, tyX7_ok, by decide, tb_mem 82 (by decide +kernel) (by decide +kernel), tb_mem 83 (by decide +kernel) (by decide +kernel), tb_mem 69 (by decide +kernel) (by decide +kernel)⟩
theorem n_X2_9 : NL RX2 9 1 := ⟨RX1, TX1, tyX1, rfl, u_in_X1, tyX1_ok, by decide, tb_mem 201 (by decide +kernel) (by decide +kernel), tb_mem 97 (by decide +kernel) (by decide +kernel), tb_mem 71 (by decide +kernel) (by decide +kernel)⟩
theorem cl_X2_9 : Cond.classLink RX2 9 RX1 ∈ TB := tb_mem 201 (by decide +kernel) (by decide +kernel)
theorem n_X4_11 : NL RX4 11 5 := ⟨RX6, TX6, tyX6, rfl, u_in_X6, tyX6_ok, by decide, tb_mem 545 (by decide +kernel) (by decide +kernel), tb_mem 150 (by decide +kernel) (by decide +kernel), tb_mem 72 (by decide +kernel) (by decide +kernel)⟩
theorem n_X4_20 : NL RX4 20 0 := ⟨RX0, TX0, tyX0, rfl, u_in_X0, tyX0_ok, by decide, tb_mem 547 (by decide +kernel) (by decide +kernel), tb_mem 217 (by decide +kernel) (by decide +kernel), tb_mem 74 (by decide +kernel) (by decide +kernel)⟩
theorem n_X5_15 : NL RX5 15 1 := ⟨RX1, TX1, tyX1, rfl, u_in_X1, tyX1_ok, by decide, tb_mem 96 (by decide +kernel) (by decide +kernel), tb_mem 97 (by decide +kernel) (by decide +kernel), tb_mem 71 (by decide +kernel) (by decide +kernel)⟩
theorem n_X5_22 : NL RX5 22 5 := ⟨RX6, TX6, tyX6, rfl, u_in_X6, tyX6_ok, by decide, tb_mem 149 (by decide +kernel) (by decide +kernel), tb_mem 150 (by decide +kernel) (by decide +kernel), tb_mem 72 (by decide +kernel) (by decide +kernel)⟩
theorem n_X7_155 : NL RX7 155 3 := ⟨RX4, TX4, tyX4, rfl, u_in_X4, tyX4_ok, by decide, tb_mem 539 (by decide +kernel) (by decide +kernel), tb_mem 540 (by decide +kernel) (by decide +kernel), tb_mem 80 (by decide +kernel) (by decide +kernel)⟩
theorem n_X7_16 : NL RX7 16 1 := ⟨RX1, TX1, tyX1, rfl, u_in_X1, tyX1_ok, by decide, tb_mem 193 (by decide +kernel) (by decide +kernel), tb_mem 97 (by decide +kernel) (by decide +kernel), tb_mem 71 (by decide +kernel) (by decide +kernel)⟩
theorem cl_X7_16 : Cond.classLink RX7 16 RX1 ∈ TB := tb_mem 193 (by decide +kernel) (by decide +kernel)
theorem n_X7_23 : NL RX7 23 2 := ⟨RX2, TX2, tyX2, rfl, u_in_X2, tyX2_ok, by decide, tb_mem 195 (by decide +kernel) (by decide +kernel), tb_mem 196 (by decide +kernel) (by decide +kernel), tb_mem 73 (by decide +kernel) (by decide +kernel)⟩
theorem n_X7_34 : NL RX7 34 5 := ⟨RX6, TX6, tyX6, rfl, u_in_X6, tyX6_ok, by decide, tb_mem 214 (by decide +kernel) (by decide +kernel), tb_mem 150 (by decide +kernel) (by decide +kernel), tb_mem 72 (by decide +kernel) (by decide +kernel)⟩
theorem n_X7_43 : NL RX7 43 0 := ⟨RX0, TX0, tyX0, rfl, u_in_X0, tyX0_ok, by decide, tb_mem 216 (by decide +kernel) (by decide +kernel), tb_mem 217 (by decide +kernel) (by decide +kernel), tb_mem 74 (by decide +kernel) (by decide +kernel)⟩
theorem n_X7_7 : NL RX7 7 4 := ⟨RX5, TX5, tyX5, rfl, u_in_X5, tyX5_ok, by decide, tb_mem 90 (by decide +kernel) (by decide +kernel), tb_mem 91 (by decide +kernel) (by decide +kernel), tb_mem 70 (by decide +kernel) (by decide +kernel)⟩
theorem c_J13_314 : Cond.constantLong RJ13 314 (6148914691236517205) ∈ TB := tb_mem 668 (by decide +kernel) (by decide +kernel)
theorem c_J13_316 : Cond.constantLong RJ13 316 (3689348814741910323) ∈ TB := tb_mem 669 (by decide +kernel) (by decide +kernel)
theorem c_J13_318 : Cond.constantLong RJ13 318 (1085102592571150095) ∈ TB := tb_mem 670 (by decide +kernel) (by decide +kernel)
theorem c_X7_165 : Cond.constantLong RX7 165 (-1) ∈ TB := tb_mem 643 (by decide +kernel) (by decide +kernel)
theorem c_X8_7 : Cond.constantLong RX8 7 (255) ∈ TB := tb_mem 731 (by decide +kernel) (by decide +kernel)
theorem c_X8_33 : Cond.constantLong RX8 33 (97) ∈ TB := tb_mem 903 (by decide +kernel) (by decide +kernel)
theorem c_X8_35 : Cond.constantLong RX8 35 (122) ∈ TB := tb_mem 904 (by decide +kernel) (by decide +kernel)
theorem c_X8_40 : Cond.constantLong RX8 40 (48) ∈ TB := tb_mem 905 (by decide +kernel) (by decide +kernel)
theorem c_X8_42 : Cond.constantLong RX8 42 (57) ∈ TB := tb_mem 906 (by decide +kernel) (by decide +kernel)
theorem c_X8_47 : Cond.constant RX8 47 (1048576) ∈ TB := tb_mem 766 (by decide +kernel) (by decide +kernel)
theorem c_X8_79 : Cond.constant RX8 79 (1048575) ∈ TB := tb_mem 777 (by decide +kernel) (by decide +kernel)
theorem c_X8_80 : Cond.constant RX8 80 (262143) ∈ TB := tb_mem 792 (by decide +kernel) (by decide +kernel)
theorem c_X8_154 : Cond.constantLong RX8 154 (9) ∈ TB := tb_mem 931 (by decide +kernel) (by decide +kernel)
theorem c_X8_186 : Cond.constantLong RX8 186 (104) ∈ TB := tb_mem 948 (by decide +kernel) (by decide +kernel)
theorem c_X8_248 : Cond.constantLong RX8 248 (-9) ∈ TB := tb_mem 1027 (by decide +kernel) (by decide +kernel)
theorem c_X8_253 : Cond.constantLong RX8 253 (10) ∈ TB := tb_mem 1032 (by decide +kernel) (by decide +kernel)
theorem c_X8_264 : Cond.constantLong RX8 264 (12) ∈ TB := tb_mem 1041 (by decide +kernel) (by decide +kernel)
theorem c_X8_266 : Cond.constantLong RX8 266 (-1) ∈ TB := tb_mem 1042 (by decide +kernel) (by decide +kernel)
theorem c_X8_268 : Cond.constantLong RX8 268 (5) ∈ TB := tb_mem 1067 (by decide +kernel) (by decide +kernel)
theorem cp_X1_37 : Cond.methodLink RX1 37 arraycopyName ∈ TB := tb_mem 310 (by decide +kernel) (by decide +kernel)
theorem mm_X3_15 : Cond.methodLink RX3 15 Lib.Math.max.name ∈ TB := tb_mem 439 (by decide +kernel) (by decide +kernel)
theorem mm_X4_138 : Cond.methodLink RX4 138 Lib.Math.max.name ∈ TB := tb_mem 630 (by decide +kernel) (by decide +kernel)
theorem mm_X7_257 : Cond.methodLink RX7 257 Lib.Math.max.name ∈ TB := tb_mem 702 (by decide +kernel) (by decide +kernel)
theorem mm_X2_29 : Cond.methodLink RX2 29 Lib.Math.min.name ∈ TB := tb_mem 410 (by decide +kernel) (by decide +kernel)
theorem mm_X4_98 : Cond.methodLink RX4 98 Lib.Math.min.name ∈ TB := tb_mem 605 (by decide +kernel) (by decide +kernel)
theorem oi_X0_3 : Cond.methodLink RX0 3 Lib.objectInit ∈ TB := tb_mem 221 (by decide +kernel) (by decide +kernel)
theorem oi_X1_3 : Cond.methodLink RX1 3 Lib.objectInit ∈ TB := tb_mem 101 (by decide +kernel) (by decide +kernel)
theorem oi_X2_3 : Cond.methodLink RX2 3 Lib.objectInit ∈ TB := tb_mem 200 (by decide +kernel) (by decide +kernel)
theorem oi_X4_5 : Cond.methodLink RX4 5 Lib.objectInit ∈ TB := tb_mem 544 (by decide +kernel) (by decide +kernel)
theorem oi_X5_3 : Cond.methodLink RX5 3 Lib.objectInit ∈ TB := tb_mem 95 (by decide +kernel) (by decide +kernel)
theorem oi_X6_3 : Cond.methodLink RX6 3 Lib.objectInit ∈ TB := tb_mem 154 (by decide +kernel) (by decide +kernel)
theorem oi_X7_1 : Cond.methodLink RX7 1 Lib.objectInit ∈ TB := tb_mem 87 (by decide +kernel) (by decide +kernel)
theorem oi_X8_115 : Cond.methodLink RX8 115 Lib.objectInit ∈ TB := tb_mem 744 (by decide +kernel) (by decide +kernel)
theorem ac_boolean : Cond.arrayClass (newarray.typeOf .boolean) ∈ TB := tb_mem 887 (by decide +kernel) (by decide +kernel)
theorem ac_int : Cond.arrayClass (newarray.typeOf .int) ∈ TB := tb_mem 148 (by decide +kernel) (by decide +kernel)
theorem ac_long : Cond.arrayClass (newarray.typeOf .long) ∈ TB := tb_mem 285 (by decide +kernel) (by decide +kernel)
theorem oi_i : Cond.instanceMethod Lib.objectInit ∈ TB := tb_mem 88 (by decide +kernel) (by decide +kernel)
theorem oi_c : Cond.code Lib.objectInit ⟨#[0xb1]⟩ 1 none ∈ TB := tb_mem 89 (by decide +kernel) (by decide +kernel)
theorem mm_max_s : Cond.static Lib.Math.max.name ∈ TB := tb_mem 440 (by decide +kernel) (by decide +kernel)
theorem mm_max_c : Cond.code Lib.Math.max.name Lib.Math.max.code 2 (some .int) ∈ TB := tb_mem 441 (by decide +kernel) (by decide +kernel)
theorem mm_min_s : Cond.static Lib.Math.min.name ∈ TB := tb_mem 411 (by decide +kernel) (by decide +kernel)
theorem mm_min_c : Cond.code Lib.Math.min.name Lib.Math.min.code 2 (some .int) ∈ TB := tb_mem 412 (by decide +kernel) (by decide +kernel)
theorem mm_i : Cond.initialized "java/lang/Math" ∈ TB := tb_mem 78 (by decide +kernel) (by decide +kernel)
theorem cp_n : Cond.native arraycopyName ∈ TB := tb_mem 312 (by decide +kernel) (by decide +kernel)
theorem cp_s : Cond.static arraycopyName ∈ TB := tb_mem 311 (by decide +kernel) (by decide +kernel)
theorem cp_i : Cond.initialized "java/lang/System" ∈ TB := tb_mem 76 (by decide +kernel) (by decide +kernel)
