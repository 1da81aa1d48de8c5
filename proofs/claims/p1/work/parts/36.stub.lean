theorem zk_0_0 : zkc 0 0 [] = true := by sorry
theorem zk_1_0 : zkc 1 1 [] = true := by sorry
theorem zk_2_0 : zkc 2 2 [] = true := by sorry
theorem zk_3_0 : zkc 3 3 [] = true := by sorry
theorem zk_4_0 : zkc 4 4 [] = true := by sorry
theorem zk_5_0 : zkc 5 5 [] = true := by sorry
theorem zk_6_0 : zkc 6 6 [(2, (-2147483648), (-1))] = true := by sorry
theorem zk_6_1 : zkc 6 6 [(2, 0, 0), (4, (-2147483648), (-1))] = true := by sorry
theorem zk_6_2 : zkc 6 6 [(2, 0, 0), (4, 0, 0)] = true := by sorry
theorem zk_6_3 : zkc 6 6 [(2, 0, 0), (4, 1, 1)] = true := by sorry
theorem zk_6_4 : zkc 6 6 [(2, 0, 0), (4, 2, 2)] = true := by sorry
theorem zk_6_5 : zkc 6 6 [(2, 0, 0), (4, 3, 3)] = true := by sorry
theorem zk_6_6 : zkc 6 6 [(2, 0, 0), (4, 4, 2147483647)] = true := by sorry
theorem zk_6_7 : zkc 6 6 [(2, 1, 1), (4, (-2147483648), (-1))] = true := by sorry
theorem zk_6_8 : zkc 6 6 [(2, 1, 1), (4, 0, 0)] = true := by sorry
theorem zk_6_9 : zkc 6 6 [(2, 1, 1), (4, 1, 1)] = true := by sorry
theorem zk_6_10 : zkc 6 6 [(2, 1, 1), (4, 2, 2)] = true := by sorry
theorem zk_6_11 : zkc 6 6 [(2, 1, 1), (4, 3, 3)] = true := by sorry
theorem zk_6_12 : zkc 6 6 [(2, 1, 1), (4, 4, 2147483647)] = true := by sorry
theorem zk_6_13 : zkc 6 6 [(2, 2, 2), (4, (-2147483648), (-1))] = true := by sorry
theorem zk_6_14 : zkc 6 6 [(2, 2, 2), (4, 0, 0)] = true := by sorry
theorem zk_6_15 : zkc 6 6 [(2, 2, 2), (4, 1, 1)] = true := by sorry
theorem zk_6_16 : zkc 6 6 [(2, 2, 2), (4, 2, 2)] = true := by sorry
theorem zk_6_17 : zkc 6 6 [(2, 2, 2), (4, 3, 3)] = true := by sorry
theorem zk_6_18 : zkc 6 6 [(2, 2, 2), (4, 4, 2147483647)] = true := by sorry
theorem zk_6_19 : zkc 6 6 [(2, 3, 3), (4, (-2147483648), (-1))] = true := by sorry
theorem zk_6_20 : zkc 6 6 [(2, 3, 3), (4, 0, 0)] = true := by sorry
theorem zk_6_21 : zkc 6 6 [(2, 3, 3), (4, 1, 1)] = true := by sorry
theorem zk_6_22 : zkc 6 6 [(2, 3, 3), (4, 2, 2)] = true := by sorry
theorem zk_6_23 : zkc 6 6 [(2, 3, 3), (4, 3, 3)] = true := by sorry
theorem zk_6_24 : zkc 6 6 [(2, 3, 3), (4, 4, 2147483647)] = true := by sorry
theorem zk_6_25 : zkc 6 6 [(2, 4, 2147483647)] = true := by sorry
theorem zk_7_0 : zkc 7 7 [(2, (-2147483648), (-1))] = true := by sorry
theorem zk_7_1 : zkc 7 7 [(2, 0, 0)] = true := by sorry
theorem zk_7_2 : zkc 7 7 [(2, 1, 1)] = true := by sorry
theorem zk_7_3 : zkc 7 7 [(2, 2, 2)] = true := by sorry
theorem zk_7_4 : zkc 7 7 [(2, 3, 3)] = true := by sorry
theorem zk_7_5 : zkc 7 7 [(2, 4, 4)] = true := by sorry
theorem zk_7_6 : zkc 7 7 [(2, 5, 5)] = true := by sorry
theorem zk_7_7 : zkc 7 7 [(2, 6, 6)] = true := by sorry
theorem zk_7_8 : zkc 7 7 [(2, 7, 2147483647)] = true := by sorry
theorem zk_8_0 : zkc 8 8 [(2, (-2147483648), (-1))] = true := by sorry
theorem zk_8_1 : zkc 8 8 [(2, 0, 0), (4, (-2147483648), (-1))] = true := by sorry
theorem zk_8_2 : zkc 8 8 [(2, 0, 0), (4, 0, 0)] = true := by sorry
theorem zk_8_3 : zkc 8 8 [(2, 0, 0), (4, 1, 1)] = true := by sorry
theorem zk_8_4 : zkc 8 8 [(2, 0, 0), (4, 2, 2)] = true := by sorry
theorem zk_8_5 : zkc 8 8 [(2, 0, 0), (4, 3, 3)] = true := by sorry
theorem zk_8_6 : zkc 8 8 [(2, 0, 0), (4, 4, 2147483647)] = true := by sorry
theorem zk_8_7 : zkc 8 8 [(2, 1, 1), (4, (-2147483648), (-1))] = true := by sorry
theorem zk_8_8 : zkc 8 8 [(2, 1, 1), (4, 0, 0)] = true := by sorry
theorem zk_8_9 : zkc 8 8 [(2, 1, 1), (4, 1, 1)] = true := by sorry
theorem zk_8_10 : zkc 8 8 [(2, 1, 1), (4, 2, 2)] = true := by sorry
theorem zk_8_11 : zkc 8 8 [(2, 1, 1), (4, 3, 3)] = true := by sorry
theorem zk_8_12 : zkc 8 8 [(2, 1, 1), (4, 4, 2147483647)] = true := by sorry
theorem zk_8_13 : zkc 8 8 [(2, 2, 2), (4, (-2147483648), (-1))] = true := by sorry
theorem zk_8_14 : zkc 8 8 [(2, 2, 2), (4, 0, 0)] = true := by sorry
theorem zk_8_15 : zkc 8 8 [(2, 2, 2), (4, 1, 1)] = true := by sorry
theorem zk_8_16 : zkc 8 8 [(2, 2, 2), (4, 2, 2)] = true := by sorry
theorem zk_8_17 : zkc 8 8 [(2, 2, 2), (4, 3, 3)] = true := by sorry
theorem zk_8_18 : zkc 8 8 [(2, 2, 2), (4, 4, 2147483647)] = true := by sorry
theorem zk_8_19 : zkc 8 8 [(2, 3, 3), (4, (-2147483648), (-1))] = true := by sorry
theorem zk_8_20 : zkc 8 8 [(2, 3, 3), (4, 0, 0)] = true := by sorry
theorem zk_8_21 : zkc 8 8 [(2, 3, 3), (4, 1, 1)] = true := by sorry
theorem zk_8_22 : zkc 8 8 [(2, 3, 3), (4, 2, 2)] = true := by sorry
theorem zk_8_23 : zkc 8 8 [(2, 3, 3), (4, 3, 3)] = true := by sorry
theorem zk_8_24 : zkc 8 8 [(2, 3, 3), (4, 4, 2147483647)] = true := by sorry
theorem zk_8_25 : zkc 8 8 [(2, 4, 2147483647)] = true := by sorry
theorem zk_9_0 : zkc 9 9 [(2, (-2147483648), (-1))] = true := by sorry
theorem zk_9_1 : zkc 9 9 [(2, 0, 0), (4, (-2147483648), (-1))] = true := by sorry
theorem zk_9_2 : zkc 9 9 [(2, 0, 0), (4, 0, 0)] = true := by sorry
theorem zk_9_3 : zkc 9 9 [(2, 0, 0), (4, 1, 1)] = true := by sorry
theorem zk_9_4 : zkc 9 9 [(2, 0, 0), (4, 2, 2)] = true := by sorry
theorem zk_9_5 : zkc 9 9 [(2, 0, 0), (4, 3, 3)] = true := by sorry
theorem zk_9_6 : zkc 9 9 [(2, 0, 0), (4, 4, 2147483647)] = true := by sorry
theorem zk_9_7 : zkc 9 9 [(2, 1, 1), (4, (-2147483648), (-1))] = true := by sorry
theorem zk_9_8 : zkc 9 9 [(2, 1, 1), (4, 0, 0)] = true := by sorry
theorem zk_9_9 : zkc 9 9 [(2, 1, 1), (4, 1, 1)] = true := by sorry
theorem zk_9_10 : zkc 9 9 [(2, 1, 1), (4, 2, 2)] = true := by sorry
theorem zk_9_11 : zkc 9 9 [(2, 1, 1), (4, 3, 3)] = true := by sorry
theorem zk_9_12 : zkc 9 9 [(2, 1, 1), (4, 4, 2147483647)] = true := by sorry
theorem zk_9_13 : zkc 9 9 [(2, 2, 2), (4, (-2147483648), (-1))] = true := by sorry
theorem zk_9_14 : zkc 9 9 [(2, 2, 2), (4, 0, 0)] = true := by sorry
theorem zk_9_15 : zkc 9 9 [(2, 2, 2), (4, 1, 1)] = true := by sorry
theorem zk_9_16 : zkc 9 9 [(2, 2, 2), (4, 2, 2)] = true := by sorry
theorem zk_9_17 : zkc 9 9 [(2, 2, 2), (4, 3, 3)] = true := by sorry
theorem zk_9_18 : zkc 9 9 [(2, 2, 2), (4, 4, 2147483647)] = true := by sorry
theorem zk_9_19 : zkc 9 9 [(2, 3, 3), (4, (-2147483648), (-1))] = true := by sorry
theorem zk_9_20 : zkc 9 9 [(2, 3, 3), (4, 0, 0)] = true := by sorry
theorem zk_9_21 : zkc 9 9 [(2, 3, 3), (4, 1, 1)] = true := by sorry
theorem zk_9_22 : zkc 9 9 [(2, 3, 3), (4, 2, 2)] = true := by sorry
theorem zk_9_23 : zkc 9 9 [(2, 3, 3), (4, 3, 3)] = true := by sorry
theorem zk_9_24 : zkc 9 9 [(2, 3, 3), (4, 4, 2147483647)] = true := by sorry
theorem zk_9_25 : zkc 9 9 [(2, 4, 2147483647)] = true := by sorry
theorem zk_10_0 : zkc 10 10 [(2, (-2147483648), (-1))] = true := by sorry
theorem zk_10_1 : zkc 10 10 [(2, 0, 0)] = true := by sorry
theorem zk_10_2 : zkc 10 10 [(2, 1, 1)] = true := by sorry
theorem zk_10_3 : zkc 10 10 [(2, 2, 2)] = true := by sorry
theorem zk_10_4 : zkc 10 10 [(2, 3, 3)] = true := by sorry
theorem zk_10_5 : zkc 10 10 [(2, 4, 2147483647)] = true := by sorry
theorem zk_11_0 : zkc 11 11 [(2, (-2147483648), (-1))] = true := by sorry
theorem zk_11_1 : zkc 11 11 [(2, 0, 0)] = true := by sorry
theorem zk_11_2 : zkc 11 11 [(2, 1, 1)] = true := by sorry
theorem zk_11_3 : zkc 11 11 [(2, 2, 2)] = true := by sorry
theorem zk_11_4 : zkc 11 11 [(2, 3, 3)] = true := by sorry
theorem zk_11_5 : zkc 11 11 [(2, 4, 2147483647)] = true := by sorry
theorem zk_12_0 : zkc 12 12 [(2, (-2147483648), (-1))] = true := by sorry
theorem zk_12_1 : zkc 12 12 [(2, 4, 2147483647)] = true := by sorry
theorem zk_12_2 : zkc 12 12 [(2, 0, 3), (3, (-2147483648), (-1))] = true := by sorry
theorem zk_12_3 : zkc 12 12 [(2, 0, 3), (3, 4, 2147483647)] = true := by sorry
theorem zk_12_4 : zkc 12 12 [(2, 0, 3), (3, 0, 0), (4, (-2147483648), (-1))] = true := by sorry
theorem zk_12_5 : zkc 12 12 [(2, 0, 3), (3, 0, 0), (4, 4, 2147483647)] = true := by sorry
theorem zk_12_6 : zkc 12 12 [(2, 0, 3), (3, 0, 0), (4, 0, 0)] = true := by sorry
theorem zk_12_7 : zkc 12 12 [(2, 0, 3), (3, 0, 0), (4, 1, 1)] = true := by sorry
theorem zk_12_8 : zkc 12 12 [(2, 0, 3), (3, 0, 0), (4, 2, 2)] = true := by sorry
theorem zk_12_9 : zkc 12 12 [(2, 0, 3), (3, 0, 0), (4, 3, 3)] = true := by sorry
theorem zk_12_10 : zkc 12 12 [(2, 0, 3), (3, 1, 3), (4, (-2147483648), (-1))] = true := by sorry
theorem zk_12_11 : zkc 12 12 [(2, 0, 3), (3, 1, 3), (4, 4, 2147483647)] = true := by sorry
theorem zk_12_12 : zkc 12 12 [(2, 0, 3), (3, 1, 3), (4, 0, 0)] = true := by sorry
theorem zk_12_13 : zkc 12 12 [(2, 0, 3), (3, 1, 3), (4, 1, 1)] = true := by sorry
theorem zk_12_14 : zkc 12 12 [(2, 0, 3), (3, 1, 3), (4, 2, 2)] = true := by sorry
theorem zk_12_15 : zkc 12 12 [(2, 0, 3), (3, 1, 3), (4, 3, 3)] = true := by sorry
theorem zk_13_0 : zkc 13 13 [] = true := by sorry
theorem zk_14_0 : zkc 14 14 [] = true := by sorry
theorem zk_15_0 : zkc 15 15 [] = true := by sorry
theorem zk_16_0 : zkc 16 16 [] = true := by sorry
theorem zk_17_0 : zkc 17 17 [(2, (-2147483648), (-1))] = true := by sorry
theorem zk_17_1 : zkc 17 17 [(2, 0, 0)] = true := by sorry
theorem zk_17_2 : zkc 17 17 [(2, 1, 1)] = true := by sorry
theorem zk_17_3 : zkc 17 17 [(2, 2, 2)] = true := by sorry
theorem zk_17_4 : zkc 17 17 [(2, 3, 2147483647)] = true := by sorry
theorem zk_18_0 : zkc 18 18 [(2, (-2147483648), (-1))] = true := by sorry
theorem zk_18_1 : zkc 18 18 [(2, 0, 0)] = true := by sorry
theorem zk_18_2 : zkc 18 18 [(2, 1, 1)] = true := by sorry
theorem zk_18_3 : zkc 18 18 [(2, 2, 2)] = true := by sorry
theorem zk_18_4 : zkc 18 18 [(2, 3, 3)] = true := by sorry
theorem zk_18_5 : zkc 18 18 [(2, 4, 2147483647)] = true := by sorry
theorem zk_19_0 : zkc 19 19 [] = true := by sorry
theorem zk_20_0 : zkc 20 20 [(2, (-2147483648), (-1))] = true := by sorry
theorem zk_20_1 : zkc 20 20 [(2, 0, 0)] = true := by sorry
theorem zk_20_2 : zkc 20 20 [(2, 1, 1)] = true := by sorry
theorem zk_20_3 : zkc 20 20 [(2, 2, 2)] = true := by sorry
theorem zk_20_4 : zkc 20 20 [(2, 3, 3)] = true := by sorry
theorem zk_20_5 : zkc 20 20 [(2, 4, 2147483647)] = true := by sorry
theorem zk_21_0 : zkc 21 21 [(2, (-2147483648), (-1))] = true := by sorry
theorem zk_21_1 : zkc 21 21 [(2, 0, 0), (4, (-2147483648), (-1))] = true := by sorry
theorem zk_21_2 : zkc 21 21 [(2, 0, 0), (4, 0, 0)] = true := by sorry
theorem zk_21_3 : zkc 21 21 [(2, 0, 0), (4, 1, 1)] = true := by sorry
theorem zk_21_4 : zkc 21 21 [(2, 0, 0), (4, 2, 2)] = true := by sorry
theorem zk_21_5 : zkc 21 21 [(2, 0, 0), (4, 3, 3)] = true := by sorry
theorem zk_21_6 : zkc 21 21 [(2, 0, 0), (4, 4, 2147483647)] = true := by sorry
theorem zk_21_7 : zkc 21 21 [(2, 1, 1), (4, (-2147483648), (-1))] = true := by sorry
theorem zk_21_8 : zkc 21 21 [(2, 1, 1), (4, 0, 0)] = true := by sorry
theorem zk_21_9 : zkc 21 21 [(2, 1, 1), (4, 1, 1)] = true := by sorry
theorem zk_21_10 : zkc 21 21 [(2, 1, 1), (4, 2, 2)] = true := by sorry
theorem zk_21_11 : zkc 21 21 [(2, 1, 1), (4, 3, 3)] = true := by sorry
theorem zk_21_12 : zkc 21 21 [(2, 1, 1), (4, 4, 2147483647)] = true := by sorry
theorem zk_21_13 : zkc 21 21 [(2, 2, 2), (4, (-2147483648), (-1))] = true := by sorry
theorem zk_21_14 : zkc 21 21 [(2, 2, 2), (4, 0, 0)] = true := by sorry
theorem zk_21_15 : zkc 21 21 [(2, 2, 2), (4, 1, 1)] = true := by sorry
theorem zk_21_16 : zkc 21 21 [(2, 2, 2), (4, 2, 2)] = true := by sorry
theorem zk_21_17 : zkc 21 21 [(2, 2, 2), (4, 3, 3)] = true := by sorry
theorem zk_21_18 : zkc 21 21 [(2, 2, 2), (4, 4, 2147483647)] = true := by sorry
theorem zk_21_19 : zkc 21 21 [(2, 3, 3), (4, (-2147483648), (-1))] = true := by sorry
theorem zk_21_20 : zkc 21 21 [(2, 3, 3), (4, 0, 0)] = true := by sorry
theorem zk_21_21 : zkc 21 21 [(2, 3, 3), (4, 1, 1)] = true := by sorry
theorem zk_21_22 : zkc 21 21 [(2, 3, 3), (4, 2, 2)] = true := by sorry
theorem zk_21_23 : zkc 21 21 [(2, 3, 3), (4, 3, 3)] = true := by sorry
theorem zk_21_24 : zkc 21 21 [(2, 3, 3), (4, 4, 2147483647)] = true := by sorry
theorem zk_21_25 : zkc 21 21 [(2, 4, 2147483647)] = true := by sorry
theorem zk_22_0 : zkc 22 22 [] = true := by sorry
theorem zk_23_0 : zkc 23 23 [(2, (-2147483648), (-1))] = true := by sorry
theorem zk_23_1 : zkc 23 23 [(2, 0, 0), (4, (-2147483648), (-1))] = true := by sorry
theorem zk_23_2 : zkc 23 23 [(2, 0, 0), (4, 0, 0)] = true := by sorry
theorem zk_23_3 : zkc 23 23 [(2, 0, 0), (4, 1, 1)] = true := by sorry
theorem zk_23_4 : zkc 23 23 [(2, 0, 0), (4, 2, 2)] = true := by sorry
theorem zk_23_5 : zkc 23 23 [(2, 0, 0), (4, 3, 3)] = true := by sorry
theorem zk_23_6 : zkc 23 23 [(2, 0, 0), (4, 4, 2147483647)] = true := by sorry
theorem zk_23_7 : zkc 23 23 [(2, 1, 1), (4, (-2147483648), (-1))] = true := by sorry
theorem zk_23_8 : zkc 23 23 [(2, 1, 1), (4, 0, 0)] = true := by sorry
theorem zk_23_9 : zkc 23 23 [(2, 1, 1), (4, 1, 1)] = true := by sorry
theorem zk_23_10 : zkc 23 23 [(2, 1, 1), (4, 2, 2)] = true := by sorry
theorem zk_23_11 : zkc 23 23 [(2, 1, 1), (4, 3, 3)] = true := by sorry
theorem zk_23_12 : zkc 23 23 [(2, 1, 1), (4, 4, 2147483647)] = true := by sorry
theorem zk_23_13 : zkc 23 23 [(2, 2, 2), (4, (-2147483648), (-1))] = true := by sorry
theorem zk_23_14 : zkc 23 23 [(2, 2, 2), (4, 0, 0)] = true := by sorry
theorem zk_23_15 : zkc 23 23 [(2, 2, 2), (4, 1, 1)] = true := by sorry
theorem zk_23_16 : zkc 23 23 [(2, 2, 2), (4, 2, 2)] = true := by sorry
theorem zk_23_17 : zkc 23 23 [(2, 2, 2), (4, 3, 3)] = true := by sorry
theorem zk_23_18 : zkc 23 23 [(2, 2, 2), (4, 4, 2147483647)] = true := by sorry
theorem zk_23_19 : zkc 23 23 [(2, 3, 3), (4, (-2147483648), (-1))] = true := by sorry
theorem zk_23_20 : zkc 23 23 [(2, 3, 3), (4, 0, 0)] = true := by sorry
theorem zk_23_21 : zkc 23 23 [(2, 3, 3), (4, 1, 1)] = true := by sorry
theorem zk_23_22 : zkc 23 23 [(2, 3, 3), (4, 2, 2)] = true := by sorry
theorem zk_23_23 : zkc 23 23 [(2, 3, 3), (4, 3, 3)] = true := by sorry
theorem zk_23_24 : zkc 23 23 [(2, 3, 3), (4, 4, 2147483647)] = true := by sorry
theorem zk_23_25 : zkc 23 23 [(2, 4, 2147483647)] = true := by sorry
theorem zk_24_0 : zkc 24 24 [] = true := by sorry
theorem zk_25_0 : zkc 25 25 [] = true := by sorry
theorem zk_26_0 : zkc 26 26 [] = true := by sorry
theorem zk_27_0 : zkc 27 27 [(2, (-2147483648), (-1))] = true := by sorry
theorem zk_27_1 : zkc 27 27 [(2, 0, 0), (4, (-2147483648), (-1))] = true := by sorry
theorem zk_27_2 : zkc 27 27 [(2, 0, 0), (4, 0, 0), (5, (-2147483648), (-1))] = true := by sorry
theorem zk_27_3 : zkc 27 27 [(2, 0, 0), (4, 0, 0), (5, 0, 0)] = true := by sorry
theorem zk_27_4 : zkc 27 27 [(2, 0, 0), (4, 0, 0), (5, 1, 1)] = true := by sorry
theorem zk_27_5 : zkc 27 27 [(2, 0, 0), (4, 0, 0), (5, 2, 2)] = true := by sorry
theorem zk_27_6 : zkc 27 27 [(2, 0, 0), (4, 0, 0), (5, 3, 2147483647)] = true := by sorry
theorem zk_27_7 : zkc 27 27 [(2, 0, 0), (4, 1, 1), (5, (-2147483648), (-1))] = true := by sorry
theorem zk_27_8 : zkc 27 27 [(2, 0, 0), (4, 1, 1), (5, 0, 0)] = true := by sorry
theorem zk_27_9 : zkc 27 27 [(2, 0, 0), (4, 1, 1), (5, 1, 1)] = true := by sorry
theorem zk_27_10 : zkc 27 27 [(2, 0, 0), (4, 1, 1), (5, 2, 2)] = true := by sorry
theorem zk_27_11 : zkc 27 27 [(2, 0, 0), (4, 1, 1), (5, 3, 2147483647)] = true := by sorry
theorem zk_27_12 : zkc 27 27 [(2, 0, 0), (4, 2, 2), (5, (-2147483648), (-1))] = true := by sorry
theorem zk_27_13 : zkc 27 27 [(2, 0, 0), (4, 2, 2), (5, 0, 0)] = true := by sorry
theorem zk_27_14 : zkc 27 27 [(2, 0, 0), (4, 2, 2), (5, 1, 1)] = true := by sorry
theorem zk_27_15 : zkc 27 27 [(2, 0, 0), (4, 2, 2), (5, 2, 2)] = true := by sorry
theorem zk_27_16 : zkc 27 27 [(2, 0, 0), (4, 2, 2), (5, 3, 2147483647)] = true := by sorry
theorem zk_27_17 : zkc 27 27 [(2, 0, 0), (4, 3, 3), (5, (-2147483648), (-1))] = true := by sorry
theorem zk_27_18 : zkc 27 27 [(2, 0, 0), (4, 3, 3), (5, 0, 0)] = true := by sorry
theorem zk_27_19 : zkc 27 27 [(2, 0, 0), (4, 3, 3), (5, 1, 1)] = true := by sorry
theorem zk_27_20 : zkc 27 27 [(2, 0, 0), (4, 3, 3), (5, 2, 2)] = true := by sorry
theorem zk_27_21 : zkc 27 27 [(2, 0, 0), (4, 3, 3), (5, 3, 2147483647)] = true := by sorry
theorem zk_27_22 : zkc 27 27 [(2, 0, 0), (4, 4, 2147483647)] = true := by sorry
theorem zk_27_23 : zkc 27 27 [(2, 1, 1), (4, (-2147483648), (-1))] = true := by sorry
theorem zk_27_24 : zkc 27 27 [(2, 1, 1), (4, 0, 0), (5, (-2147483648), (-1))] = true := by sorry
theorem zk_27_25 : zkc 27 27 [(2, 1, 1), (4, 0, 0), (5, 0, 0)] = true := by sorry
theorem zk_27_26 : zkc 27 27 [(2, 1, 1), (4, 0, 0), (5, 1, 1)] = true := by sorry
theorem zk_27_27 : zkc 27 27 [(2, 1, 1), (4, 0, 0), (5, 2, 2)] = true := by sorry
theorem zk_27_28 : zkc 27 27 [(2, 1, 1), (4, 0, 0), (5, 3, 2147483647)] = true := by sorry
theorem zk_27_29 : zkc 27 27 [(2, 1, 1), (4, 1, 1), (5, (-2147483648), (-1))] = true := by sorry
theorem zk_27_30 : zkc 27 27 [(2, 1, 1), (4, 1, 1), (5, 0, 0)] = true := by sorry
theorem zk_27_31 : zkc 27 27 [(2, 1, 1), (4, 1, 1), (5, 1, 1)] = true := by sorry
theorem zk_27_32 : zkc 27 27 [(2, 1, 1), (4, 1, 1), (5, 2, 2)] = true := by sorry
theorem zk_27_33 : zkc 27 27 [(2, 1, 1), (4, 1, 1), (5, 3, 2147483647)] = true := by sorry
theorem zk_27_34 : zkc 27 27 [(2, 1, 1), (4, 2, 2), (5, (-2147483648), (-1))] = true := by sorry
theorem zk_27_35 : zkc 27 27 [(2, 1, 1), (4, 2, 2), (5, 0, 0)] = true := by sorry
theorem zk_27_36 : zkc 27 27 [(2, 1, 1), (4, 2, 2), (5, 1, 1)] = true := by sorry
theorem zk_27_37 : zkc 27 27 [(2, 1, 1), (4, 2, 2), (5, 2, 2)] = true := by sorry
theorem zk_27_38 : zkc 27 27 [(2, 1, 1), (4, 2, 2), (5, 3, 2147483647)] = true := by sorry
theorem zk_27_39 : zkc 27 27 [(2, 1, 1), (4, 3, 3), (5, (-2147483648), (-1))] = true := by sorry
theorem zk_27_40 : zkc 27 27 [(2, 1, 1), (4, 3, 3), (5, 0, 0)] = true := by sorry
theorem zk_27_41 : zkc 27 27 [(2, 1, 1), (4, 3, 3), (5, 1, 1)] = true := by sorry
theorem zk_27_42 : zkc 27 27 [(2, 1, 1), (4, 3, 3), (5, 2, 2)] = true := by sorry
theorem zk_27_43 : zkc 27 27 [(2, 1, 1), (4, 3, 3), (5, 3, 2147483647)] = true := by sorry
theorem zk_27_44 : zkc 27 27 [(2, 1, 1), (4, 4, 2147483647)] = true := by sorry
theorem zk_27_45 : zkc 27 27 [(2, 2, 2), (4, (-2147483648), (-1))] = true := by sorry
theorem zk_27_46 : zkc 27 27 [(2, 2, 2), (4, 0, 0), (5, (-2147483648), (-1))] = true := by sorry
theorem zk_27_47 : zkc 27 27 [(2, 2, 2), (4, 0, 0), (5, 0, 0)] = true := by sorry
theorem zk_27_48 : zkc 27 27 [(2, 2, 2), (4, 0, 0), (5, 1, 1)] = true := by sorry
theorem zk_27_49 : zkc 27 27 [(2, 2, 2), (4, 0, 0), (5, 2, 2)] = true := by sorry
theorem zk_27_50 : zkc 27 27 [(2, 2, 2), (4, 0, 0), (5, 3, 2147483647)] = true := by sorry
theorem zk_27_51 : zkc 27 27 [(2, 2, 2), (4, 1, 1), (5, (-2147483648), (-1))] = true := by sorry
theorem zk_27_52 : zkc 27 27 [(2, 2, 2), (4, 1, 1), (5, 0, 0)] = true := by sorry
theorem zk_27_53 : zkc 27 27 [(2, 2, 2), (4, 1, 1), (5, 1, 1)] = true := by sorry
theorem zk_27_54 : zkc 27 27 [(2, 2, 2), (4, 1, 1), (5, 2, 2)] = true := by sorry
theorem zk_27_55 : zkc 27 27 [(2, 2, 2), (4, 1, 1), (5, 3, 2147483647)] = true := by sorry
theorem zk_27_56 : zkc 27 27 [(2, 2, 2), (4, 2, 2), (5, (-2147483648), (-1))] = true := by sorry
theorem zk_27_57 : zkc 27 27 [(2, 2, 2), (4, 2, 2), (5, 0, 0)] = true := by sorry
theorem zk_27_58 : zkc 27 27 [(2, 2, 2), (4, 2, 2), (5, 1, 1)] = true := by sorry
theorem zk_27_59 : zkc 27 27 [(2, 2, 2), (4, 2, 2), (5, 2, 2)] = true := by sorry
theorem zk_27_60 : zkc 27 27 [(2, 2, 2), (4, 2, 2), (5, 3, 2147483647)] = true := by sorry
theorem zk_27_61 : zkc 27 27 [(2, 2, 2), (4, 3, 3), (5, (-2147483648), (-1))] = true := by sorry
theorem zk_27_62 : zkc 27 27 [(2, 2, 2), (4, 3, 3), (5, 0, 0)] = true := by sorry
theorem zk_27_63 : zkc 27 27 [(2, 2, 2), (4, 3, 3), (5, 1, 1)] = true := by sorry
theorem zk_27_64 : zkc 27 27 [(2, 2, 2), (4, 3, 3), (5, 2, 2)] = true := by sorry
theorem zk_27_65 : zkc 27 27 [(2, 2, 2), (4, 3, 3), (5, 3, 2147483647)] = true := by sorry
theorem zk_27_66 : zkc 27 27 [(2, 2, 2), (4, 4, 2147483647)] = true := by sorry
theorem zk_27_67 : zkc 27 27 [(2, 3, 3), (4, (-2147483648), (-1))] = true := by sorry
theorem zk_27_68 : zkc 27 27 [(2, 3, 3), (4, 0, 0), (5, (-2147483648), (-1))] = true := by sorry
theorem zk_27_69 : zkc 27 27 [(2, 3, 3), (4, 0, 0), (5, 0, 0)] = true := by sorry
theorem zk_27_70 : zkc 27 27 [(2, 3, 3), (4, 0, 0), (5, 1, 1)] = true := by sorry
theorem zk_27_71 : zkc 27 27 [(2, 3, 3), (4, 0, 0), (5, 2, 2)] = true := by sorry
theorem zk_27_72 : zkc 27 27 [(2, 3, 3), (4, 0, 0), (5, 3, 2147483647)] = true := by sorry
theorem zk_27_73 : zkc 27 27 [(2, 3, 3), (4, 1, 1), (5, (-2147483648), (-1))] = true := by sorry
theorem zk_27_74 : zkc 27 27 [(2, 3, 3), (4, 1, 1), (5, 0, 0)] = true := by sorry
theorem zk_27_75 : zkc 27 27 [(2, 3, 3), (4, 1, 1), (5, 1, 1)] = true := by sorry
theorem zk_27_76 : zkc 27 27 [(2, 3, 3), (4, 1, 1), (5, 2, 2)] = true := by sorry
theorem zk_27_77 : zkc 27 27 [(2, 3, 3), (4, 1, 1), (5, 3, 2147483647)] = true := by sorry
theorem zk_27_78 : zkc 27 27 [(2, 3, 3), (4, 2, 2), (5, (-2147483648), (-1))] = true := by sorry
theorem zk_27_79 : zkc 27 27 [(2, 3, 3), (4, 2, 2), (5, 0, 0)] = true := by sorry
theorem zk_27_80 : zkc 27 27 [(2, 3, 3), (4, 2, 2), (5, 1, 1)] = true := by sorry
theorem zk_27_81 : zkc 27 27 [(2, 3, 3), (4, 2, 2), (5, 2, 2)] = true := by sorry
theorem zk_27_82 : zkc 27 27 [(2, 3, 3), (4, 2, 2), (5, 3, 2147483647)] = true := by sorry
theorem zk_27_83 : zkc 27 27 [(2, 3, 3), (4, 3, 3), (5, (-2147483648), (-1))] = true := by sorry
theorem zk_27_84 : zkc 27 27 [(2, 3, 3), (4, 3, 3), (5, 0, 0)] = true := by sorry
theorem zk_27_85 : zkc 27 27 [(2, 3, 3), (4, 3, 3), (5, 1, 1)] = true := by sorry
theorem zk_27_86 : zkc 27 27 [(2, 3, 3), (4, 3, 3), (5, 2, 2)] = true := by sorry
theorem zk_27_87 : zkc 27 27 [(2, 3, 3), (4, 3, 3), (5, 3, 2147483647)] = true := by sorry
theorem zk_27_88 : zkc 27 27 [(2, 3, 3), (4, 4, 2147483647)] = true := by sorry
theorem zk_27_89 : zkc 27 27 [(2, 4, 2147483647)] = true := by sorry
theorem zk_28_0 : zkc 28 28 [] = true := by sorry
theorem zk_29_0 : zkc 29 29 [(2, (-2147483648), 0)] = true := by sorry
theorem zk_29_1 : zkc 29 29 [(2, 1, 1000), (3, (-2147483648), (-1))] = true := by sorry
theorem zk_29_2 : zkc 29 29 [(2, 1, 1000), (3, 0, 0)] = true := by sorry
theorem zk_29_3 : zkc 29 29 [(2, 1, 1000), (3, 1, 1)] = true := by sorry
theorem zk_29_4 : zkc 29 29 [(2, 1, 1000), (3, 2, 2147483647)] = true := by sorry
theorem zk_29_5 : zkc 29 29 [(2, 1001, 2147483647)] = true := by sorry
theorem zk_30_0 : zkc 30 30 [] = true := by sorry
theorem zk_31_0 : zkc 31 31 [(3, (-2147483648), (-1))] = true := by sorry
theorem zk_31_1 : zkc 31 31 [(3, 0, 0)] = true := by sorry
theorem zk_31_2 : zkc 31 31 [(3, 1, 1)] = true := by sorry
theorem zk_31_3 : zkc 31 31 [(3, 2, 2147483647)] = true := by sorry
theorem zk_32_0 : zkc 32 32 [] = true := by sorry
theorem zk_33_0 : zkc 33 33 [] = true := by sorry
theorem zk_34_0 : zkc 34 34 [(2, (-2147483648), (-1))] = true := by sorry
theorem zk_34_1 : zkc 34 34 [(2, 0, 0)] = true := by sorry
theorem zk_34_2 : zkc 34 34 [(2, 1, 1)] = true := by sorry
theorem zk_34_3 : zkc 34 34 [(2, 2, 2)] = true := by sorry
theorem zk_34_4 : zkc 34 34 [(2, 3, 3)] = true := by sorry
theorem zk_34_5 : zkc 34 34 [(2, 4, 2147483647)] = true := by sorry
theorem zk_35_0 : zkc 35 35 [] = true := by sorry
theorem zk_36_0 : zkc 36 36 [] = true := by sorry
theorem zk_37_0 : zkc (-2147483648) (-1) [] = true := by sorry
theorem zk_38_0 : zkc 37 2147483647 [] = true := by sorry
