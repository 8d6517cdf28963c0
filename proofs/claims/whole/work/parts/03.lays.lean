theorem inRange {f : Nat → Cond} {N : Nat} (h : ∀ k, k < N → f k ∈ TB) : ∀ w ∈ (List.range N).map f, w ∈ TB := by
  intro w hw
  obtain ⟨k, hk, rfl⟩ := List.mem_map.mp hw
  exact h k (List.mem_range.mp hk)
theorem ly_0_0 : u_lay RX0 TX0 0 ∈ TB := tbm 258 (by decide +kernel) (by decide +kernel)
theorem ly_0_1 : u_lay RX0 TX0 1 ∈ TB := tbm 260 (by decide +kernel) (by decide +kernel)
theorem ly_0_2 : u_lay RX0 TX0 2 ∈ TB := tbm 262 (by decide +kernel) (by decide +kernel)
theorem ly_0_3 : u_lay RX0 TX0 3 ∈ TB := tbm 264 (by decide +kernel) (by decide +kernel)
theorem ly_0_4 : u_lay RX0 TX0 4 ∈ TB := tbm 266 (by decide +kernel) (by decide +kernel)
theorem ly_0_5 : u_lay RX0 TX0 5 ∈ TB := tbm 268 (by decide +kernel) (by decide +kernel)
theorem ly_0_6 : u_lay RX0 TX0 6 ∈ TB := tbm 270 (by decide +kernel) (by decide +kernel)
theorem ly_0_7 : u_lay RX0 TX0 7 ∈ TB := tbm 272 (by decide +kernel) (by decide +kernel)
theorem ly_0_8 : u_lay RX0 TX0 8 ∈ TB := tbm 274 (by decide +kernel) (by decide +kernel)
theorem ly_0_9 : u_lay RX0 TX0 9 ∈ TB := tbm 276 (by decide +kernel) (by decide +kernel)
theorem ly_0_10 : u_lay RX0 TX0 10 ∈ TB := tbm 278 (by decide +kernel) (by decide +kernel)
theorem ly_0_11 : u_lay RX0 TX0 11 ∈ TB := tbm 280 (by decide +kernel) (by decide +kernel)
theorem ly_0_12 : u_lay RX0 TX0 12 ∈ TB := tbm 282 (by decide +kernel) (by decide +kernel)
theorem ly_0_13 : u_lay RX0 TX0 13 ∈ TB := tbm 284 (by decide +kernel) (by decide +kernel)
theorem ly_0_14 : u_lay RX0 TX0 14 ∈ TB := tbm 286 (by decide +kernel) (by decide +kernel)
theorem iX0 : ∀ w ∈ u_ws RX0 TX0 15, w ∈ TB := inRange fun k hk => match k, hk with
  | 0, _ => ly_0_0
  | 1, _ => ly_0_1
  | 2, _ => ly_0_2
  | 3, _ => ly_0_3
  | 4, _ => ly_0_4
  | 5, _ => ly_0_5
  | 6, _ => ly_0_6
  | 7, _ => ly_0_7
  | 8, _ => ly_0_8
  | 9, _ => ly_0_9
  | 10, _ => ly_0_10
  | 11, _ => ly_0_11
  | 12, _ => ly_0_12
  | 13, _ => ly_0_13
  | 14, _ => ly_0_14
  | k + 15, h => absurd h (by omega)
theorem ly_1_0 : u_lay RX1 TX1 0 ∈ TB := tbm 203 (by decide +kernel) (by decide +kernel)
theorem ly_1_1 : u_lay RX1 TX1 1 ∈ TB := tbm 205 (by decide +kernel) (by decide +kernel)
theorem ly_1_2 : u_lay RX1 TX1 2 ∈ TB := tbm 207 (by decide +kernel) (by decide +kernel)
theorem ly_1_3 : u_lay RX1 TX1 3 ∈ TB := tbm 209 (by decide +kernel) (by decide +kernel)
theorem ly_1_4 : u_lay RX1 TX1 4 ∈ TB := tbm 211 (by decide +kernel) (by decide +kernel)
theorem ly_1_5 : u_lay RX1 TX1 5 ∈ TB := tbm 213 (by decide +kernel) (by decide +kernel)
theorem ly_1_6 : u_lay RX1 TX1 6 ∈ TB := tbm 215 (by decide +kernel) (by decide +kernel)
theorem ly_1_7 : u_lay RX1 TX1 7 ∈ TB := tbm 217 (by decide +kernel) (by decide +kernel)
theorem ly_1_8 : u_lay RX1 TX1 8 ∈ TB := tbm 219 (by decide +kernel) (by decide +kernel)
theorem ly_1_9 : u_lay RX1 TX1 9 ∈ TB := tbm 221 (by decide +kernel) (by decide +kernel)
theorem ly_1_10 : u_lay RX1 TX1 10 ∈ TB := tbm 223 (by decide +kernel) (by decide +kernel)
theorem ly_1_11 : u_lay RX1 TX1 11 ∈ TB := tbm 225 (by decide +kernel) (by decide +kernel)
theorem ly_1_12 : u_lay RX1 TX1 12 ∈ TB := tbm 227 (by decide +kernel) (by decide +kernel)
theorem ly_1_13 : u_lay RX1 TX1 13 ∈ TB := tbm 229 (by decide +kernel) (by decide +kernel)
theorem ly_1_14 : u_lay RX1 TX1 14 ∈ TB := tbm 231 (by decide +kernel) (by decide +kernel)
theorem ly_1_15 : u_lay RX1 TX1 15 ∈ TB := tbm 233 (by decide +kernel) (by decide +kernel)
theorem iX1 : ∀ w ∈ u_ws RX1 TX1 16, w ∈ TB := inRange fun k hk => match k, hk with
  | 0, _ => ly_1_0
  | 1, _ => ly_1_1
  | 2, _ => ly_1_2
  | 3, _ => ly_1_3
  | 4, _ => ly_1_4
  | 5, _ => ly_1_5
  | 6, _ => ly_1_6
  | 7, _ => ly_1_7
  | 8, _ => ly_1_8
  | 9, _ => ly_1_9
  | 10, _ => ly_1_10
  | 11, _ => ly_1_11
  | 12, _ => ly_1_12
  | 13, _ => ly_1_13
  | 14, _ => ly_1_14
  | 15, _ => ly_1_15
  | k + 16, h => absurd h (by omega)
theorem ly_2_0 : u_lay RX2 TX2 0 ∈ TB := tbm 158 (by decide +kernel) (by decide +kernel)
theorem ly_2_1 : u_lay RX2 TX2 1 ∈ TB := tbm 160 (by decide +kernel) (by decide +kernel)
theorem ly_2_2 : u_lay RX2 TX2 2 ∈ TB := tbm 162 (by decide +kernel) (by decide +kernel)
theorem ly_2_3 : u_lay RX2 TX2 3 ∈ TB := tbm 164 (by decide +kernel) (by decide +kernel)
theorem ly_2_4 : u_lay RX2 TX2 4 ∈ TB := tbm 166 (by decide +kernel) (by decide +kernel)
theorem ly_2_5 : u_lay RX2 TX2 5 ∈ TB := tbm 168 (by decide +kernel) (by decide +kernel)
theorem ly_2_6 : u_lay RX2 TX2 6 ∈ TB := tbm 170 (by decide +kernel) (by decide +kernel)
theorem iX2 : ∀ w ∈ u_ws RX2 TX2 7, w ∈ TB := inRange fun k hk => match k, hk with
  | 0, _ => ly_2_0
  | 1, _ => ly_2_1
  | 2, _ => ly_2_2
  | 3, _ => ly_2_3
  | 4, _ => ly_2_4
  | 5, _ => ly_2_5
  | 6, _ => ly_2_6
  | k + 7, h => absurd h (by omega)
theorem ly_3_0 : u_lay RX3 TX3 0 ∈ TB := tbm 118 (by decide +kernel) (by decide +kernel)
theorem ly_3_1 : u_lay RX3 TX3 1 ∈ TB := tbm 120 (by decide +kernel) (by decide +kernel)
theorem ly_3_2 : u_lay RX3 TX3 2 ∈ TB := tbm 122 (by decide +kernel) (by decide +kernel)
theorem ly_3_3 : u_lay RX3 TX3 3 ∈ TB := tbm 124 (by decide +kernel) (by decide +kernel)
theorem ly_3_4 : u_lay RX3 TX3 4 ∈ TB := tbm 126 (by decide +kernel) (by decide +kernel)
theorem ly_3_5 : u_lay RX3 TX3 5 ∈ TB := tbm 128 (by decide +kernel) (by decide +kernel)
theorem ly_3_6 : u_lay RX3 TX3 6 ∈ TB := tbm 130 (by decide +kernel) (by decide +kernel)
theorem ly_3_7 : u_lay RX3 TX3 7 ∈ TB := tbm 132 (by decide +kernel) (by decide +kernel)
theorem ly_3_8 : u_lay RX3 TX3 8 ∈ TB := tbm 134 (by decide +kernel) (by decide +kernel)
theorem ly_3_9 : u_lay RX3 TX3 9 ∈ TB := tbm 136 (by decide +kernel) (by decide +kernel)
theorem ly_3_10 : u_lay RX3 TX3 10 ∈ TB := tbm 138 (by decide +kernel) (by decide +kernel)
theorem ly_3_11 : u_lay RX3 TX3 11 ∈ TB := tbm 140 (by decide +kernel) (by decide +kernel)
theorem iX3 : ∀ w ∈ u_ws RX3 TX3 12, w ∈ TB := inRange fun k hk => match k, hk with
  | 0, _ => ly_3_0
  | 1, _ => ly_3_1
  | 2, _ => ly_3_2
  | 3, _ => ly_3_3
  | 4, _ => ly_3_4
  | 5, _ => ly_3_5
  | 6, _ => ly_3_6
  | 7, _ => ly_3_7
  | 8, _ => ly_3_8
  | 9, _ => ly_3_9
  | 10, _ => ly_3_10
  | 11, _ => ly_3_11
  | k + 12, h => absurd h (by omega)
theorem ly_4_0 : u_lay RX4 TX4 0 ∈ TB := tbm 302 (by decide +kernel) (by decide +kernel)
theorem ly_4_1 : u_lay RX4 TX4 1 ∈ TB := tbm 304 (by decide +kernel) (by decide +kernel)
theorem ly_4_2 : u_lay RX4 TX4 2 ∈ TB := tbm 306 (by decide +kernel) (by decide +kernel)
theorem ly_4_3 : u_lay RX4 TX4 3 ∈ TB := tbm 308 (by decide +kernel) (by decide +kernel)
theorem ly_4_4 : u_lay RX4 TX4 4 ∈ TB := tbm 310 (by decide +kernel) (by decide +kernel)
theorem ly_4_5 : u_lay RX4 TX4 5 ∈ TB := tbm 312 (by decide +kernel) (by decide +kernel)
theorem ly_4_6 : u_lay RX4 TX4 6 ∈ TB := tbm 314 (by decide +kernel) (by decide +kernel)
theorem ly_4_7 : u_lay RX4 TX4 7 ∈ TB := tbm 316 (by decide +kernel) (by decide +kernel)
theorem ly_4_8 : u_lay RX4 TX4 8 ∈ TB := tbm 318 (by decide +kernel) (by decide +kernel)
theorem ly_4_9 : u_lay RX4 TX4 9 ∈ TB := tbm 320 (by decide +kernel) (by decide +kernel)
theorem ly_4_10 : u_lay RX4 TX4 10 ∈ TB := tbm 322 (by decide +kernel) (by decide +kernel)
theorem ly_4_11 : u_lay RX4 TX4 11 ∈ TB := tbm 324 (by decide +kernel) (by decide +kernel)
theorem ly_4_12 : u_lay RX4 TX4 12 ∈ TB := tbm 326 (by decide +kernel) (by decide +kernel)
theorem iX4 : ∀ w ∈ u_ws RX4 TX4 13, w ∈ TB := inRange fun k hk => match k, hk with
  | 0, _ => ly_4_0
  | 1, _ => ly_4_1
  | 2, _ => ly_4_2
  | 3, _ => ly_4_3
  | 4, _ => ly_4_4
  | 5, _ => ly_4_5
  | 6, _ => ly_4_6
  | 7, _ => ly_4_7
  | 8, _ => ly_4_8
  | 9, _ => ly_4_9
  | 10, _ => ly_4_10
  | 11, _ => ly_4_11
  | 12, _ => ly_4_12
  | k + 13, h => absurd h (by omega)
theorem ly_5_0 : u_lay RX5 TX5 0 ∈ TB := tbm 802 (by decide +kernel) (by decide +kernel)
theorem ly_5_1 : u_lay RX5 TX5 1 ∈ TB := tbm 804 (by decide +kernel) (by decide +kernel)
theorem ly_5_2 : u_lay RX5 TX5 2 ∈ TB := tbm 806 (by decide +kernel) (by decide +kernel)
theorem ly_5_3 : u_lay RX5 TX5 3 ∈ TB := tbm 808 (by decide +kernel) (by decide +kernel)
theorem ly_5_4 : u_lay RX5 TX5 4 ∈ TB := tbm 810 (by decide +kernel) (by decide +kernel)
theorem ly_5_5 : u_lay RX5 TX5 5 ∈ TB := tbm 812 (by decide +kernel) (by decide +kernel)
theorem ly_5_6 : u_lay RX5 TX5 6 ∈ TB := tbm 814 (by decide +kernel) (by decide +kernel)
theorem ly_5_7 : u_lay RX5 TX5 7 ∈ TB := tbm 816 (by decide +kernel) (by decide +kernel)
theorem ly_5_8 : u_lay RX5 TX5 8 ∈ TB := tbm 818 (by decide +kernel) (by decide +kernel)
theorem ly_5_9 : u_lay RX5 TX5 9 ∈ TB := tbm 820 (by decide +kernel) (by decide +kernel)
theorem ly_5_10 : u_lay RX5 TX5 10 ∈ TB := tbm 822 (by decide +kernel) (by decide +kernel)
theorem ly_5_11 : u_lay RX5 TX5 11 ∈ TB := tbm 824 (by decide +kernel) (by decide +kernel)
theorem ly_5_12 : u_lay RX5 TX5 12 ∈ TB := tbm 826 (by decide +kernel) (by decide +kernel)
theorem ly_5_13 : u_lay RX5 TX5 13 ∈ TB := tbm 828 (by decide +kernel) (by decide +kernel)
theorem ly_5_14 : u_lay RX5 TX5 14 ∈ TB := tbm 830 (by decide +kernel) (by decide +kernel)
theorem ly_5_15 : u_lay RX5 TX5 15 ∈ TB := tbm 832 (by decide +kernel) (by decide +kernel)
theorem ly_5_16 : u_lay RX5 TX5 16 ∈ TB := tbm 834 (by decide +kernel) (by decide +kernel)
theorem ly_5_17 : u_lay RX5 TX5 17 ∈ TB := tbm 836 (by decide +kernel) (by decide +kernel)
theorem ly_5_18 : u_lay RX5 TX5 18 ∈ TB := tbm 838 (by decide +kernel) (by decide +kernel)
theorem ly_5_19 : u_lay RX5 TX5 19 ∈ TB := tbm 840 (by decide +kernel) (by decide +kernel)
theorem ly_5_20 : u_lay RX5 TX5 20 ∈ TB := tbm 842 (by decide +kernel) (by decide +kernel)
theorem ly_5_21 : u_lay RX5 TX5 21 ∈ TB := tbm 844 (by decide +kernel) (by decide +kernel)
theorem ly_5_22 : u_lay RX5 TX5 22 ∈ TB := tbm 846 (by decide +kernel) (by decide +kernel)
theorem ly_5_23 : u_lay RX5 TX5 23 ∈ TB := tbm 848 (by decide +kernel) (by decide +kernel)
theorem ly_5_24 : u_lay RX5 TX5 24 ∈ TB := tbm 850 (by decide +kernel) (by decide +kernel)
theorem ly_5_25 : u_lay RX5 TX5 25 ∈ TB := tbm 852 (by decide +kernel) (by decide +kernel)
theorem ly_5_26 : u_lay RX5 TX5 26 ∈ TB := tbm 854 (by decide +kernel) (by decide +kernel)
theorem ly_5_27 : u_lay RX5 TX5 27 ∈ TB := tbm 856 (by decide +kernel) (by decide +kernel)
theorem ly_5_28 : u_lay RX5 TX5 28 ∈ TB := tbm 858 (by decide +kernel) (by decide +kernel)
theorem ly_5_29 : u_lay RX5 TX5 29 ∈ TB := tbm 860 (by decide +kernel) (by decide +kernel)
theorem ly_5_30 : u_lay RX5 TX5 30 ∈ TB := tbm 862 (by decide +kernel) (by decide +kernel)
theorem ly_5_31 : u_lay RX5 TX5 31 ∈ TB := tbm 864 (by decide +kernel) (by decide +kernel)
theorem ly_5_32 : u_lay RX5 TX5 32 ∈ TB := tbm 866 (by decide +kernel) (by decide +kernel)
theorem ly_5_33 : u_lay RX5 TX5 33 ∈ TB := tbm 868 (by decide +kernel) (by decide +kernel)
theorem ly_5_34 : u_lay RX5 TX5 34 ∈ TB := tbm 870 (by decide +kernel) (by decide +kernel)
theorem ly_5_35 : u_lay RX5 TX5 35 ∈ TB := tbm 872 (by decide +kernel) (by decide +kernel)
theorem ly_5_36 : u_lay RX5 TX5 36 ∈ TB := tbm 874 (by decide +kernel) (by decide +kernel)
theorem ly_5_37 : u_lay RX5 TX5 37 ∈ TB := tbm 876 (by decide +kernel) (by decide +kernel)
theorem ly_5_38 : u_lay RX5 TX5 38 ∈ TB := tbm 878 (by decide +kernel) (by decide +kernel)
theorem ly_5_39 : u_lay RX5 TX5 39 ∈ TB := tbm 880 (by decide +kernel) (by decide +kernel)
theorem ly_5_40 : u_lay RX5 TX5 40 ∈ TB := tbm 882 (by decide +kernel) (by decide +kernel)
theorem iX5 : ∀ w ∈ u_ws RX5 TX5 41, w ∈ TB := inRange fun k hk => match k, hk with
  | 0, _ => ly_5_0
  | 1, _ => ly_5_1
  | 2, _ => ly_5_2
  | 3, _ => ly_5_3
  | 4, _ => ly_5_4
  | 5, _ => ly_5_5
  | 6, _ => ly_5_6
  | 7, _ => ly_5_7
  | 8, _ => ly_5_8
  | 9, _ => ly_5_9
  | 10, _ => ly_5_10
  | 11, _ => ly_5_11
  | 12, _ => ly_5_12
  | 13, _ => ly_5_13
  | 14, _ => ly_5_14
  | 15, _ => ly_5_15
  | 16, _ => ly_5_16
  | 17, _ => ly_5_17
  | 18, _ => ly_5_18
  | 19, _ => ly_5_19
  | 20, _ => ly_5_20
  | 21, _ => ly_5_21
  | 22, _ => ly_5_22
  | 23, _ => ly_5_23
  | 24, _ => ly_5_24
  | 25, _ => ly_5_25
  | 26, _ => ly_5_26
  | 27, _ => ly_5_27
  | 28, _ => ly_5_28
  | 29, _ => ly_5_29
  | 30, _ => ly_5_30
  | 31, _ => ly_5_31
  | 32, _ => ly_5_32
  | 33, _ => ly_5_33
  | 34, _ => ly_5_34
  | 35, _ => ly_5_35
  | 36, _ => ly_5_36
  | 37, _ => ly_5_37
  | 38, _ => ly_5_38
  | 39, _ => ly_5_39
  | 40, _ => ly_5_40
  | k + 41, h => absurd h (by omega)
def nestW : List Cond := [.fieldLinkNest RX0 34 RX3 "x" "[I" RX4, .fieldLinkNest RX4 134 RX3 "x" "[I" RX4, .fieldLinkNest RX0 43 RX3 "y" "[I" RX4, .fieldLinkNest RX4 137 RX3 "y" "[I" RX4, .fieldLinkNest RX0 44 RX3 "stiff" "[I" RX4, .fieldLinkNest RX4 140 RX3 "stiff" "[I" RX4, .fieldLinkNest RX0 45 RX3 "can" "[I" RX4, .fieldLinkNest RX4 143 RX3 "can" "[I" RX4, .fieldLinkNest RX0 46 RX3 "piles" "I" RX4, .fieldLinkNest RX2 42 RX3 "piles" "I" RX4, .fieldLinkNest RX4 89 RX3 "piles" "I" RX4, .fieldLinkNest RX4 105 RX3 "intact" "I" RX4, .fieldLinkNest RX4 120 RX3 "columnX" "[I" RX4, .fieldLinkNest RX4 123 RX3 "columnY" "[I" RX4, .fieldLinkNest RX4 117 RX3 "load" "[I" RX4, .fieldLinkNest RX2 48 RX3 "columns" "I" RX4, .fieldLinkNest RX4 282 RX3 "columns" "I" RX4, .fieldLinkNest RX2 89 RX3 "windX" "I" RX4, .fieldLinkNest RX4 126 RX3 "windX" "I" RX4, .fieldLinkNest RX2 92 RX3 "windY" "I" RX4, .fieldLinkNest RX4 129 RX3 "windY" "I" RX4, .fieldLinkNest RX4 62 RX2 "length" "I" RX4, .fieldLinkNest RX0 131 RX1 "bottom" "J" RX4, .fieldLinkNest RX4 171 RX0 "set" "I" RX4, .fieldLinkNest RX4 174 RX0 "active" "I" RX4, .fieldLinkNest RX4 168 RX0 "rounds" "I" RX4, .fieldLinkNest RX4 149 RX0 "settled" "Z" RX4, .fieldLinkNest RX4 292 RX0 "mostUsed" "I" RX4, .fieldLinkNest RX4 194 RX0 "plane" "LPileShares$Plane;" RX4, .methodLinkNest RX4 11 yX3_init RX4, .methodLinkNest RX4 21 yX2_init RX4, .methodLinkNest RX4 53 yX0_init RX4, .methodLinkNest RX0 26 yX1_init RX4]
theorem nf_RX0_34 : Cond.fieldLinkNest RX0 34 RX3 "x" "[I" RX4 ∈ nestW := List.mem_of_getElem? (i := 0) rfl
theorem nf_RX4_134 : Cond.fieldLinkNest RX4 134 RX3 "x" "[I" RX4 ∈ nestW := List.mem_of_getElem? (i := 1) rfl
theorem nf_RX0_43 : Cond.fieldLinkNest RX0 43 RX3 "y" "[I" RX4 ∈ nestW := List.mem_of_getElem? (i := 2) rfl
theorem nf_RX4_137 : Cond.fieldLinkNest RX4 137 RX3 "y" "[I" RX4 ∈ nestW := List.mem_of_getElem? (i := 3) rfl
theorem nf_RX0_44 : Cond.fieldLinkNest RX0 44 RX3 "stiff" "[I" RX4 ∈ nestW := List.mem_of_getElem? (i := 4) rfl
theorem nf_RX4_140 : Cond.fieldLinkNest RX4 140 RX3 "stiff" "[I" RX4 ∈ nestW := List.mem_of_getElem? (i := 5) rfl
theorem nf_RX0_45 : Cond.fieldLinkNest RX0 45 RX3 "can" "[I" RX4 ∈ nestW := List.mem_of_getElem? (i := 6) rfl
theorem nf_RX4_143 : Cond.fieldLinkNest RX4 143 RX3 "can" "[I" RX4 ∈ nestW := List.mem_of_getElem? (i := 7) rfl
theorem nf_RX0_46 : Cond.fieldLinkNest RX0 46 RX3 "piles" "I" RX4 ∈ nestW := List.mem_of_getElem? (i := 8) rfl
theorem nf_RX2_42 : Cond.fieldLinkNest RX2 42 RX3 "piles" "I" RX4 ∈ nestW := List.mem_of_getElem? (i := 9) rfl
theorem nf_RX4_89 : Cond.fieldLinkNest RX4 89 RX3 "piles" "I" RX4 ∈ nestW := List.mem_of_getElem? (i := 10) rfl
theorem nf_RX4_105 : Cond.fieldLinkNest RX4 105 RX3 "intact" "I" RX4 ∈ nestW := List.mem_of_getElem? (i := 11) rfl
theorem nf_RX4_120 : Cond.fieldLinkNest RX4 120 RX3 "columnX" "[I" RX4 ∈ nestW := List.mem_of_getElem? (i := 12) rfl
theorem nf_RX4_123 : Cond.fieldLinkNest RX4 123 RX3 "columnY" "[I" RX4 ∈ nestW := List.mem_of_getElem? (i := 13) rfl
theorem nf_RX4_117 : Cond.fieldLinkNest RX4 117 RX3 "load" "[I" RX4 ∈ nestW := List.mem_of_getElem? (i := 14) rfl
theorem nf_RX2_48 : Cond.fieldLinkNest RX2 48 RX3 "columns" "I" RX4 ∈ nestW := List.mem_of_getElem? (i := 15) rfl
theorem nf_RX4_282 : Cond.fieldLinkNest RX4 282 RX3 "columns" "I" RX4 ∈ nestW := List.mem_of_getElem? (i := 16) rfl
theorem nf_RX2_89 : Cond.fieldLinkNest RX2 89 RX3 "windX" "I" RX4 ∈ nestW := List.mem_of_getElem? (i := 17) rfl
theorem nf_RX4_126 : Cond.fieldLinkNest RX4 126 RX3 "windX" "I" RX4 ∈ nestW := List.mem_of_getElem? (i := 18) rfl
theorem nf_RX2_92 : Cond.fieldLinkNest RX2 92 RX3 "windY" "I" RX4 ∈ nestW := List.mem_of_getElem? (i := 19) rfl
theorem nf_RX4_129 : Cond.fieldLinkNest RX4 129 RX3 "windY" "I" RX4 ∈ nestW := List.mem_of_getElem? (i := 20) rfl
theorem nf_RX4_62 : Cond.fieldLinkNest RX4 62 RX2 "length" "I" RX4 ∈ nestW := List.mem_of_getElem? (i := 21) rfl
theorem nf_RX0_131 : Cond.fieldLinkNest RX0 131 RX1 "bottom" "J" RX4 ∈ nestW := List.mem_of_getElem? (i := 22) rfl
theorem nf_RX4_171 : Cond.fieldLinkNest RX4 171 RX0 "set" "I" RX4 ∈ nestW := List.mem_of_getElem? (i := 23) rfl
theorem nf_RX4_174 : Cond.fieldLinkNest RX4 174 RX0 "active" "I" RX4 ∈ nestW := List.mem_of_getElem? (i := 24) rfl
theorem nf_RX4_168 : Cond.fieldLinkNest RX4 168 RX0 "rounds" "I" RX4 ∈ nestW := List.mem_of_getElem? (i := 25) rfl
theorem nf_RX4_149 : Cond.fieldLinkNest RX4 149 RX0 "settled" "Z" RX4 ∈ nestW := List.mem_of_getElem? (i := 26) rfl
theorem nf_RX4_292 : Cond.fieldLinkNest RX4 292 RX0 "mostUsed" "I" RX4 ∈ nestW := List.mem_of_getElem? (i := 27) rfl
theorem nf_RX4_194 : Cond.fieldLinkNest RX4 194 RX0 "plane" "LPileShares$Plane;" RX4 ∈ nestW := List.mem_of_getElem? (i := 28) rfl
theorem nf_RX4_11 : Cond.methodLinkNest RX4 11 yX3_init RX4 ∈ nestW := List.mem_of_getElem? (i := 29) rfl
theorem nf_RX4_21 : Cond.methodLinkNest RX4 21 yX2_init RX4 ∈ nestW := List.mem_of_getElem? (i := 30) rfl
theorem nf_RX4_53 : Cond.methodLinkNest RX4 53 yX0_init RX4 ∈ nestW := List.mem_of_getElem? (i := 31) rfl
theorem nf_RX0_26 : Cond.methodLinkNest RX0 26 yX1_init RX4 ∈ nestW := List.mem_of_getElem? (i := 32) rfl
theorem nestW_warm {s U : State} (hW : s.WarmedH U.vm) (h : ∀ w ∈ nestW, va_Nw w s) : ∀ w ∈ nestW, va_Nw w U := by
  intro w hw
  have h1 := h w hw
  simp only [nestW, List.mem_cons, List.not_mem_nil, or_false] at hw
  rcases hw with rfl | rfl | rfl | rfl | rfl | rfl | rfl | rfl | rfl | rfl | rfl | rfl | rfl | rfl | rfl | rfl | rfl | rfl | rfl | rfl | rfl | rfl | rfl | rfl | rfl | rfl | rfl | rfl | rfl | rfl | rfl | rfl | rfl <;> first | exact va_Nw.warmF hW h1 | exact va_Nw.warmM hW h1
theorem ni_0 : Cond.fieldLinkNest RX0 34 RX3 "x" "[I" RX4 ∈ lw_tbl := List.mem_of_getElem? (i := 86) (by decide +kernel)
theorem ni_1 : Cond.fieldLinkNest RX4 134 RX3 "x" "[I" RX4 ∈ lw_tbl := List.mem_of_getElem? (i := 87) (by decide +kernel)
theorem ni_2 : Cond.fieldLinkNest RX0 43 RX3 "y" "[I" RX4 ∈ lw_tbl := List.mem_of_getElem? (i := 89) (by decide +kernel)
theorem ni_3 : Cond.fieldLinkNest RX4 137 RX3 "y" "[I" RX4 ∈ lw_tbl := List.mem_of_getElem? (i := 90) (by decide +kernel)
theorem ni_4 : Cond.fieldLinkNest RX0 44 RX3 "stiff" "[I" RX4 ∈ lw_tbl := List.mem_of_getElem? (i := 92) (by decide +kernel)
theorem ni_5 : Cond.fieldLinkNest RX4 140 RX3 "stiff" "[I" RX4 ∈ lw_tbl := List.mem_of_getElem? (i := 93) (by decide +kernel)
theorem ni_6 : Cond.fieldLinkNest RX0 45 RX3 "can" "[I" RX4 ∈ lw_tbl := List.mem_of_getElem? (i := 95) (by decide +kernel)
theorem ni_7 : Cond.fieldLinkNest RX4 143 RX3 "can" "[I" RX4 ∈ lw_tbl := List.mem_of_getElem? (i := 96) (by decide +kernel)
theorem ni_8 : Cond.fieldLinkNest RX0 46 RX3 "piles" "I" RX4 ∈ lw_tbl := List.mem_of_getElem? (i := 98) (by decide +kernel)
theorem ni_9 : Cond.fieldLinkNest RX2 42 RX3 "piles" "I" RX4 ∈ lw_tbl := List.mem_of_getElem? (i := 99) (by decide +kernel)
theorem ni_10 : Cond.fieldLinkNest RX4 89 RX3 "piles" "I" RX4 ∈ lw_tbl := List.mem_of_getElem? (i := 100) (by decide +kernel)
theorem ni_11 : Cond.fieldLinkNest RX4 105 RX3 "intact" "I" RX4 ∈ lw_tbl := List.mem_of_getElem? (i := 102) (by decide +kernel)
theorem ni_12 : Cond.fieldLinkNest RX4 120 RX3 "columnX" "[I" RX4 ∈ lw_tbl := List.mem_of_getElem? (i := 104) (by decide +kernel)
theorem ni_13 : Cond.fieldLinkNest RX4 123 RX3 "columnY" "[I" RX4 ∈ lw_tbl := List.mem_of_getElem? (i := 106) (by decide +kernel)
theorem ni_14 : Cond.fieldLinkNest RX4 117 RX3 "load" "[I" RX4 ∈ lw_tbl := List.mem_of_getElem? (i := 108) (by decide +kernel)
theorem ni_15 : Cond.fieldLinkNest RX2 48 RX3 "columns" "I" RX4 ∈ lw_tbl := List.mem_of_getElem? (i := 110) (by decide +kernel)
theorem ni_16 : Cond.fieldLinkNest RX4 282 RX3 "columns" "I" RX4 ∈ lw_tbl := List.mem_of_getElem? (i := 111) (by decide +kernel)
theorem ni_17 : Cond.fieldLinkNest RX2 89 RX3 "windX" "I" RX4 ∈ lw_tbl := List.mem_of_getElem? (i := 113) (by decide +kernel)
theorem ni_18 : Cond.fieldLinkNest RX4 126 RX3 "windX" "I" RX4 ∈ lw_tbl := List.mem_of_getElem? (i := 114) (by decide +kernel)
theorem ni_19 : Cond.fieldLinkNest RX2 92 RX3 "windY" "I" RX4 ∈ lw_tbl := List.mem_of_getElem? (i := 116) (by decide +kernel)
theorem ni_20 : Cond.fieldLinkNest RX4 129 RX3 "windY" "I" RX4 ∈ lw_tbl := List.mem_of_getElem? (i := 117) (by decide +kernel)
theorem ni_21 : Cond.fieldLinkNest RX4 62 RX2 "length" "I" RX4 ∈ lw_tbl := List.mem_of_getElem? (i := 152) (by decide +kernel)
theorem ni_22 : Cond.fieldLinkNest RX0 131 RX1 "bottom" "J" RX4 ∈ lw_tbl := List.mem_of_getElem? (i := 199) (by decide +kernel)
theorem ni_23 : Cond.fieldLinkNest RX4 171 RX0 "set" "I" RX4 ∈ lw_tbl := List.mem_of_getElem? (i := 246) (by decide +kernel)
theorem ni_24 : Cond.fieldLinkNest RX4 174 RX0 "active" "I" RX4 ∈ lw_tbl := List.mem_of_getElem? (i := 248) (by decide +kernel)
theorem ni_25 : Cond.fieldLinkNest RX4 168 RX0 "rounds" "I" RX4 ∈ lw_tbl := List.mem_of_getElem? (i := 250) (by decide +kernel)
theorem ni_26 : Cond.fieldLinkNest RX4 149 RX0 "settled" "Z" RX4 ∈ lw_tbl := List.mem_of_getElem? (i := 252) (by decide +kernel)
theorem ni_27 : Cond.fieldLinkNest RX4 292 RX0 "mostUsed" "I" RX4 ∈ lw_tbl := List.mem_of_getElem? (i := 254) (by decide +kernel)
theorem ni_28 : Cond.fieldLinkNest RX4 194 RX0 "plane" "LPileShares$Plane;" RX4 ∈ lw_tbl := List.mem_of_getElem? (i := 257) (by decide +kernel)
theorem ni_29 : Cond.methodLinkNest RX4 11 yX3_init RX4 ∈ lw_tbl := List.mem_of_getElem? (i := 81) (by decide +kernel)
theorem ni_30 : Cond.methodLinkNest RX4 21 yX2_init RX4 ∈ lw_tbl := List.mem_of_getElem? (i := 146) (by decide +kernel)
theorem ni_31 : Cond.methodLinkNest RX4 53 yX0_init RX4 ∈ lw_tbl := List.mem_of_getElem? (i := 176) (by decide +kernel)
theorem ni_32 : Cond.methodLinkNest RX0 26 yX1_init RX4 ∈ lw_tbl := List.mem_of_getElem? (i := 182) (by decide +kernel)
theorem nestW_in : ∀ w ∈ nestW, w ∈ lw_tbl := by
  intro w hw
  simp only [nestW, List.mem_cons, List.not_mem_nil, or_false] at hw
  rcases hw with rfl | rfl | rfl | rfl | rfl | rfl | rfl | rfl | rfl | rfl | rfl | rfl | rfl | rfl | rfl | rfl | rfl | rfl | rfl | rfl | rfl | rfl | rfl | rfl | rfl | rfl | rfl | rfl | rfl | rfl | rfl | rfl | rfl
  · exact ni_0
  · exact ni_1
  · exact ni_2
  · exact ni_3
  · exact ni_4
  · exact ni_5
  · exact ni_6
  · exact ni_7
  · exact ni_8
  · exact ni_9
  · exact ni_10
  · exact ni_11
  · exact ni_12
  · exact ni_13
  · exact ni_14
  · exact ni_15
  · exact ni_16
  · exact ni_17
  · exact ni_18
  · exact ni_19
  · exact ni_20
  · exact ni_21
  · exact ni_22
  · exact ni_23
  · exact ni_24
  · exact ni_25
  · exact ni_26
  · exact ni_27
  · exact ni_28
  · exact ni_29
  · exact ni_30
  · exact ni_31
  · exact ni_32
