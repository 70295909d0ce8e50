set_option maxRecDepth 20000 in
theorem of_0_1 : en_off 0 1 (20, 20, 0) := by unfold en_off; decide +kernel
set_option maxRecDepth 20000 in
theorem of_0_2 : en_off 0 2 (20, 20, 0) := by unfold en_off; decide +kernel
set_option maxRecDepth 20000 in
theorem of_1_1 : en_off 1 1 (24, 2, 2) := by unfold en_off; decide +kernel
set_option maxRecDepth 20000 in
theorem of_1_2 : en_off 1 2 (22, 2, 0) := by unfold en_off; decide +kernel
set_option maxRecDepth 20000 in
theorem of_2_1 : en_off 2 1 (20, 30, 0) := by unfold en_off; decide +kernel
set_option maxRecDepth 20000 in
theorem of_2_2 : en_off 2 2 (20, 30, 0) := by unfold en_off; decide +kernel
set_option maxRecDepth 20000 in
theorem of_3_1 : en_off 3 1 (23, 7, 7) := by unfold en_off; decide +kernel
set_option maxRecDepth 20000 in
theorem of_3_9 : en_off 3 9 (20, 128, 0) := by unfold en_off; decide +kernel
set_option maxRecDepth 20000 in
theorem of_4_1 : en_off 4 1 (24, 12, 1) := by unfold en_off; decide +kernel
set_option maxRecDepth 20000 in
theorem of_5_1 : en_off 5 1 (23, 12, 128) := by unfold en_off; decide +kernel
set_option maxRecDepth 20000 in
theorem of_5_14 : en_off 5 14 (20, 12, 0) := by unfold en_off; decide +kernel
set_option maxRecDepth 20000 in
theorem of_5_15 : en_off 5 15 (23, 12, 128) := by unfold en_off; decide +kernel
set_option maxRecDepth 20000 in
theorem of_5_28 : en_off 5 28 (23, 13, 128) := by unfold en_off; decide +kernel
set_option maxRecDepth 20000 in
theorem of_5_42 : en_off 5 42 (23, 13, 1024) := by unfold en_off; decide +kernel
set_option maxRecDepth 20000 in
theorem of_5_56 : en_off 5 56 (23, 12, 32) := by unfold en_off; decide +kernel
set_option maxRecDepth 20000 in
theorem of_6_1 : en_off 6 1 (20, 40, 0) := by unfold en_off; decide +kernel
set_option maxRecDepth 20000 in
theorem of_6_2 : en_off 6 2 (20, 40, 0) := by unfold en_off; decide +kernel
set_option maxRecDepth 20000 in
theorem of_6_3 : en_off 6 3 (20, 40, 0) := by unfold en_off; decide +kernel
set_option maxRecDepth 20000 in
theorem of_6_4 : en_off 6 4 (20, 7, 0) := by unfold en_off; decide +kernel
set_option maxRecDepth 20000 in
theorem of_7_1 : en_off 7 1 (20, 7, 0) := by unfold en_off; decide +kernel
set_option maxRecDepth 20000 in
theorem of_7_2 : en_off 7 2 (20, 7, 0) := by unfold en_off; decide +kernel
set_option maxRecDepth 20000 in
theorem of_7_3 : en_off 7 3 (20, 7, 0) := by unfold en_off; decide +kernel
set_option maxRecDepth 20000 in
theorem of_7_4 : en_off 7 4 (20, 20, 0) := by unfold en_off; decide +kernel
set_option maxRecDepth 20000 in
theorem of_8_1 : en_off 8 1 (20, 80, 0) := by unfold en_off; decide +kernel
set_option maxRecDepth 20000 in
theorem of_9_1 : en_off 9 1 (20, 16, 0) := by unfold en_off; decide +kernel
set_option maxRecDepth 20000 in
theorem of_10_1 : en_off 10 1 (20, 7, 0) := by unfold en_off; decide +kernel
set_option maxRecDepth 20000 in
theorem of_10_2 : en_off 10 2 (0, 0, 0) := by unfold en_off; decide +kernel
set_option maxRecDepth 20000 in
theorem of_10_5 : en_off 10 5 (6, 0, 0) := by unfold en_off; decide +kernel
set_option maxRecDepth 20000 in
theorem of_11_1 : en_off 11 1 (8, 0, 0) := by unfold en_off; decide +kernel
set_option maxRecDepth 20000 in
theorem of_11_3 : en_off 11 3 (9, 0, 0) := by unfold en_off; decide +kernel
set_option maxRecDepth 20000 in
theorem of_11_5 : en_off 11 5 (10, 0, 0) := by unfold en_off; decide +kernel
set_option maxRecDepth 20000 in
theorem of_11_15 : en_off 11 15 (7, 0, 0) := by unfold en_off; decide +kernel
set_option maxRecDepth 20000 in
theorem of_11_20 : en_off 11 20 (7, 0, 0) := by unfold en_off; decide +kernel
set_option maxRecDepth 20000 in
theorem of_11_25 : en_off 11 25 (4, 0, 0) := by unfold en_off; decide +kernel
set_option maxRecDepth 20000 in
theorem of_11_87 : en_off 11 87 (1, 0, 0) := by unfold en_off; decide +kernel
set_option maxRecDepth 20000 in
theorem of_11_100 : en_off 11 100 (2, 0, 0) := by unfold en_off; decide +kernel
set_option maxRecDepth 20000 in
theorem of_11_103 : en_off 11 103 (5, 0, 0) := by unfold en_off; decide +kernel
set_option maxRecDepth 20000 in
theorem of_11_172 : en_off 11 172 (3, 0, 0) := by unfold en_off; decide +kernel
set_option maxRecDepth 20000 in
theorem of_11_182 : en_off 11 182 (20, 201, 0) := by unfold en_off; decide +kernel
set_option maxRecDepth 20000 in
theorem of_11_183 : en_off 11 183 (20, 60, 0) := by unfold en_off; decide +kernel
set_option maxRecDepth 20000 in
theorem of_11_184 : en_off 11 184 (20, 7, 0) := by unfold en_off; decide +kernel
set_option maxRecDepth 20000 in
theorem of_12_1 : en_off 12 1 (20, 53, 0) := by unfold en_off; decide +kernel
set_option maxRecDepth 20000 in
theorem of_12_2 : en_off 12 2 (20, 7, 0) := by unfold en_off; decide +kernel
set_option maxRecDepth 20000 in
theorem of_12_3 : en_off 12 3 (20, 20, 0) := by unfold en_off; decide +kernel
set_option maxRecDepth 20000 in
theorem of_12_4 : en_off 12 4 (21, 80, 0) := by unfold en_off; decide +kernel
set_option maxRecDepth 20000 in
theorem of_12_5 : en_off 12 5 (20, 20, 0) := by unfold en_off; decide +kernel
set_option maxRecDepth 20000 in
theorem of_12_6 : en_off 12 6 (20, 20, 0) := by unfold en_off; decide +kernel
set_option maxRecDepth 20000 in
theorem of_12_7 : en_off 12 7 (21, 40, 0) := by unfold en_off; decide +kernel
set_option maxRecDepth 20000 in
theorem of_12_8 : en_off 12 8 (20, 7, 0) := by unfold en_off; decide +kernel
set_option maxRecDepth 20000 in
theorem of_12_9 : en_off 12 9 (20, 636, 0) := by unfold en_off; decide +kernel
set_option maxRecDepth 20000 in
theorem of_12_10 : en_off 12 10 (20, 53, 0) := by unfold en_off; decide +kernel
set_option maxRecDepth 20000 in
theorem of_12_11 : en_off 12 11 (20, 160, 0) := by unfold en_off; decide +kernel
set_option maxRecDepth 20000 in
theorem of_12_12 : en_off 12 12 (20, 1484, 0) := by unfold en_off; decide +kernel
set_option maxRecDepth 20000 in
theorem of_12_13 : en_off 12 13 (20, 53, 0) := by unfold en_off; decide +kernel
set_option maxRecDepth 20000 in
theorem of_12_14 : en_off 12 14 (20, 7, 0) := by unfold en_off; decide +kernel
set_option maxRecDepth 20000 in
theorem of_12_15 : en_off 12 15 (20, 7, 0) := by unfold en_off; decide +kernel
set_option maxRecDepth 20000 in
theorem of_12_16 : en_off 12 16 (20, 7, 0) := by unfold en_off; decide +kernel
set_option maxRecDepth 20000 in
theorem of_12_17 : en_off 12 17 (20, 1664, 0) := by unfold en_off; decide +kernel
set_option maxRecDepth 20000 in
theorem of_12_18 : en_off 12 18 (20, 3159, 0) := by unfold en_off; decide +kernel
set_option maxRecDepth 20000 in
theorem of_12_19 : en_off 12 19 (20, 3159, 0) := by unfold en_off; decide +kernel
set_option maxRecDepth 20000 in
theorem of_12_20 : en_off 12 20 (20, 9, 0) := by unfold en_off; decide +kernel
set_option maxRecDepth 20000 in
theorem of_12_21 : en_off 12 21 (20, 7, 0) := by unfold en_off; decide +kernel
set_option maxRecDepth 20000 in
theorem of_12_22 : en_off 12 22 (20, 106, 0) := by unfold en_off; decide +kernel
set_option maxRecDepth 20000 in
theorem of_12_23 : en_off 12 23 (22, 2, 0) := by unfold en_off; decide +kernel
