/-! FACTS, by program: of the made objects, of the methods, of their code. -/
theorem pu_all {p : Nat → Bool} (h : (List.range 118).all p = true) {q c : Nat} (hq : pu_cl q = c) (hc : c < 999) : p q = true := List.all_eq_true.mp h q (List.mem_range.mpr (pu_far hq hc))
theorem pu_c0 : pu_cl 0 = 7 := by decide +kernel
theorem pu_c1 : pu_cl 1 = 4 := by decide +kernel
theorem pu_c2 : pu_cl 2 = 100 := by decide +kernel
theorem pu_c3 : pu_cl 3 = 6 := by decide +kernel
theorem pu_c4 : pu_cl 4 = 100 := by decide +kernel
theorem pu_c5 : pu_cl 5 = 6 := by decide +kernel
theorem pu_c6 : pu_cl 6 = 100 := by decide +kernel
theorem pu_c7 : pu_cl 7 = 6 := by decide +kernel
theorem pu_c8 : pu_cl 8 = 100 := by decide +kernel
theorem pu_c9 : pu_cl 9 = 6 := by decide +kernel
theorem pu_c10 : pu_cl 10 = 100 := by decide +kernel
theorem pu_c11 : pu_cl 11 = 6 := by decide +kernel
theorem pu_c12 : pu_cl 12 = 100 := by decide +kernel
theorem pu_c13 : pu_cl 13 = 6 := by decide +kernel
theorem pu_c14 : pu_cl 14 = 100 := by decide +kernel
theorem pu_c15 : pu_cl 15 = 6 := by decide +kernel
theorem pu_c16 : pu_cl 16 = 100 := by decide +kernel
theorem pu_c17 : pu_cl 17 = 4 := by decide +kernel
theorem pu_c18 : pu_cl 18 = 100 := by decide +kernel
theorem pu_c19 : pu_cl 19 = 6 := by decide +kernel
theorem pu_c20 : pu_cl 20 = 100 := by decide +kernel
theorem pu_c21 : pu_cl 21 = 6 := by decide +kernel
theorem pu_c22 : pu_cl 22 = 100 := by decide +kernel
theorem pu_c23 : pu_cl 23 = 6 := by decide +kernel
theorem pu_c24 : pu_cl 24 = 100 := by decide +kernel
theorem pu_c25 : pu_cl 25 = 6 := by decide +kernel
theorem pu_c26 : pu_cl 26 = 100 := by decide +kernel
theorem pu_c27 : pu_cl 27 = 6 := by decide +kernel
theorem pu_c28 : pu_cl 28 = 100 := by decide +kernel
theorem pu_c29 : pu_cl 29 = 6 := by decide +kernel
theorem pu_c30 : pu_cl 30 = 100 := by decide +kernel
theorem pu_c31 : pu_cl 31 = 6 := by decide +kernel
theorem pu_c32 : pu_cl 32 = 100 := by decide +kernel
theorem pu_c33 : pu_cl 33 = 4 := by decide +kernel
theorem pu_c34 : pu_cl 34 = 100 := by decide +kernel
theorem pu_c35 : pu_cl 35 = 6 := by decide +kernel
theorem pu_c36 : pu_cl 36 = 100 := by decide +kernel
theorem pu_c37 : pu_cl 37 = 6 := by decide +kernel
theorem pu_c38 : pu_cl 38 = 100 := by decide +kernel
theorem pu_c39 : pu_cl 39 = 6 := by decide +kernel
theorem pu_c40 : pu_cl 40 = 100 := by decide +kernel
theorem pu_c41 : pu_cl 41 = 6 := by decide +kernel
theorem pu_c42 : pu_cl 42 = 100 := by decide +kernel
theorem pu_c43 : pu_cl 43 = 6 := by decide +kernel
theorem pu_c44 : pu_cl 44 = 100 := by decide +kernel
theorem pu_c45 : pu_cl 45 = 6 := by decide +kernel
theorem pu_c46 : pu_cl 46 = 100 := by decide +kernel
theorem pu_c47 : pu_cl 47 = 6 := by decide +kernel
theorem pu_c48 : pu_cl 48 = 100 := by decide +kernel
theorem pu_c49 : pu_cl 49 = 103 := by decide +kernel
theorem pu_c50 : pu_cl 50 = 5 := by decide +kernel
theorem pu_c51 : pu_cl 51 = 100 := by decide +kernel
theorem pu_c52 : pu_cl 52 = 2 := by decide +kernel
theorem pu_c53 : pu_cl 53 = 101 := by decide +kernel
theorem pu_c54 : pu_cl 54 = 100 := by decide +kernel
theorem pu_c55 : pu_cl 55 = 100 := by decide +kernel
theorem pu_c56 : pu_cl 56 = 1 := by decide +kernel
theorem pu_c57 : pu_cl 57 = 100 := by decide +kernel
theorem pu_c58 : pu_cl 58 = 100 := by decide +kernel
theorem pu_c59 : pu_cl 59 = 100 := by decide +kernel
theorem pu_c60 : pu_cl 60 = 100 := by decide +kernel
theorem pu_c61 : pu_cl 61 = 100 := by decide +kernel
theorem pu_c62 : pu_cl 62 = 2 := by decide +kernel
theorem pu_c63 : pu_cl 63 = 101 := by decide +kernel
theorem pu_c64 : pu_cl 64 = 100 := by decide +kernel
theorem pu_c65 : pu_cl 65 = 100 := by decide +kernel
theorem pu_c66 : pu_cl 66 = 0 := by decide +kernel
theorem pu_c67 : pu_cl 67 = 100 := by decide +kernel
theorem pu_c68 : pu_cl 68 = 100 := by decide +kernel
theorem pu_c69 : pu_cl 69 = 3 := by decide +kernel
theorem pu_c70 : pu_cl 70 = 102 := by decide +kernel
theorem pu_c71 : pu_cl 71 = 3 := by decide +kernel
theorem pu_c72 : pu_cl 72 = 102 := by decide +kernel
theorem pu_c73 : pu_cl 73 = 3 := by decide +kernel
theorem pu_c74 : pu_cl 74 = 102 := by decide +kernel
theorem pu_c75 : pu_cl 75 = 3 := by decide +kernel
theorem pu_c76 : pu_cl 76 = 102 := by decide +kernel
theorem pu_c77 : pu_cl 77 = 3 := by decide +kernel
theorem pu_c78 : pu_cl 78 = 102 := by decide +kernel
theorem pu_c79 : pu_cl 79 = 3 := by decide +kernel
theorem pu_c80 : pu_cl 80 = 102 := by decide +kernel
theorem pu_c81 : pu_cl 81 = 3 := by decide +kernel
theorem pu_c82 : pu_cl 82 = 102 := by decide +kernel
theorem pu_c83 : pu_cl 83 = 3 := by decide +kernel
theorem pu_c84 : pu_cl 84 = 102 := by decide +kernel
theorem pu_c85 : pu_cl 85 = 8 := by decide +kernel
theorem pu_c86 : pu_cl 86 = 100 := by decide +kernel
theorem pu_c87 : pu_cl 87 = 100 := by decide +kernel
theorem pu_c88 : pu_cl 88 = 100 := by decide +kernel
theorem pu_c89 : pu_cl 89 = 100 := by decide +kernel
theorem pu_c90 : pu_cl 90 = 100 := by decide +kernel
theorem pu_c91 : pu_cl 91 = 100 := by decide +kernel
theorem pu_c92 : pu_cl 92 = 100 := by decide +kernel
theorem pu_c93 : pu_cl 93 = 100 := by decide +kernel
theorem pu_c94 : pu_cl 94 = 100 := by decide +kernel
theorem pu_c95 : pu_cl 95 = 100 := by decide +kernel
theorem pu_c96 : pu_cl 96 = 100 := by decide +kernel
theorem pu_c97 : pu_cl 97 = 100 := by decide +kernel
theorem pu_c98 : pu_cl 98 = 100 := by decide +kernel
theorem pu_c99 : pu_cl 99 = 100 := by decide +kernel
theorem pu_c100 : pu_cl 100 = 100 := by decide +kernel
theorem pu_c101 : pu_cl 101 = 100 := by decide +kernel
theorem pu_c102 : pu_cl 102 = 100 := by decide +kernel
theorem pu_c103 : pu_cl 103 = 100 := by decide +kernel
theorem pu_c104 : pu_cl 104 = 100 := by decide +kernel
theorem pu_c105 : pu_cl 105 = 100 := by decide +kernel
theorem pu_c106 : pu_cl 106 = 100 := by decide +kernel
theorem pu_c107 : pu_cl 107 = 100 := by decide +kernel
theorem pu_c108 : pu_cl 108 = 102 := by decide +kernel
theorem pu_c109 : pu_cl 109 = 102 := by decide +kernel
theorem pu_c110 : pu_cl 110 = 100 := by decide +kernel
theorem pu_c111 : pu_cl 111 = 100 := by decide +kernel
theorem pu_c112 : pu_cl 112 = 100 := by decide +kernel
theorem pu_c113 : pu_cl 113 = 100 := by decide +kernel
theorem pu_c114 : pu_cl 114 = 100 := by decide +kernel
theorem pu_c115 : pu_cl 115 = 100 := by decide +kernel
theorem pu_c116 : pu_cl 116 = 100 := by decide +kernel
theorem pu_c117 : pu_cl 117 = 100 := by decide +kernel
theorem pu_ln2 : pu_ln 2 = 4 := by decide +kernel
theorem pu_ln4 : pu_ln 4 = 24 := by decide +kernel
theorem pu_ln6 : pu_ln 6 = 36 := by decide +kernel
theorem pu_ln8 : pu_ln 8 = 48 := by decide +kernel
theorem pu_ln10 : pu_ln 10 = 48 := by decide +kernel
theorem pu_ln12 : pu_ln 12 = 48 := by decide +kernel
theorem pu_ln14 : pu_ln 14 = 32 := by decide +kernel
theorem pu_ln16 : pu_ln 16 = 24 := by decide +kernel
theorem pu_ln18 : pu_ln 18 = 4 := by decide +kernel
theorem pu_ln20 : pu_ln 20 = 24 := by decide +kernel
theorem pu_ln22 : pu_ln 22 = 36 := by decide +kernel
theorem pu_ln24 : pu_ln 24 = 48 := by decide +kernel
theorem pu_ln26 : pu_ln 26 = 48 := by decide +kernel
theorem pu_ln28 : pu_ln 28 = 48 := by decide +kernel
theorem pu_ln30 : pu_ln 30 = 32 := by decide +kernel
theorem pu_ln32 : pu_ln 32 = 24 := by decide +kernel
theorem pu_ln34 : pu_ln 34 = 4 := by decide +kernel
theorem pu_ln36 : pu_ln 36 = 24 := by decide +kernel
theorem pu_ln38 : pu_ln 38 = 36 := by decide +kernel
theorem pu_ln40 : pu_ln 40 = 48 := by decide +kernel
theorem pu_ln42 : pu_ln 42 = 48 := by decide +kernel
theorem pu_ln44 : pu_ln 44 = 48 := by decide +kernel
theorem pu_ln46 : pu_ln 46 = 32 := by decide +kernel
theorem pu_ln48 : pu_ln 48 = 24 := by decide +kernel
theorem pu_ln49 : pu_ln 49 = 8 := by decide +kernel
theorem pu_ln51 : pu_ln 51 = 4 := by decide +kernel
theorem pu_ln53 : pu_ln 53 = 120 := by decide +kernel
theorem pu_ln54 : pu_ln 54 = 120 := by decide +kernel
theorem pu_ln55 : pu_ln 55 = 120 := by decide +kernel
theorem pu_ln57 : pu_ln 57 = 1080 := by decide +kernel
theorem pu_ln58 : pu_ln 58 = 120 := by decide +kernel
theorem pu_ln59 : pu_ln 59 = 120 := by decide +kernel
theorem pu_ln60 : pu_ln 60 = 120 := by decide +kernel
theorem pu_ln61 : pu_ln 61 = 9 := by decide +kernel
theorem pu_ln63 : pu_ln 63 = 120 := by decide +kernel
theorem pu_ln64 : pu_ln 64 = 120 := by decide +kernel
theorem pu_ln65 : pu_ln 65 = 120 := by decide +kernel
theorem pu_ln67 : pu_ln 67 = 20 := by decide +kernel
theorem pu_ln68 : pu_ln 68 = 8 := by decide +kernel
theorem pu_ln70 : pu_ln 70 = 120 := by decide +kernel
theorem pu_ln72 : pu_ln 72 = 120 := by decide +kernel
theorem pu_ln74 : pu_ln 74 = 120 := by decide +kernel
theorem pu_ln76 : pu_ln 76 = 120 := by decide +kernel
theorem pu_ln78 : pu_ln 78 = 120 := by decide +kernel
theorem pu_ln80 : pu_ln 80 = 120 := by decide +kernel
theorem pu_ln82 : pu_ln 82 = 120 := by decide +kernel
theorem pu_ln84 : pu_ln 84 = 120 := by decide +kernel
theorem pu_ln86 : pu_ln 86 = 8 := by decide +kernel
theorem pu_ln87 : pu_ln 87 = 6 := by decide +kernel
theorem pu_ln88 : pu_ln 88 = 6 := by decide +kernel
theorem pu_ln89 : pu_ln 89 = 6 := by decide +kernel
theorem pu_ln90 : pu_ln 90 = 6 := by decide +kernel
theorem pu_ln91 : pu_ln 91 = 9 := by decide +kernel
theorem pu_ln92 : pu_ln 92 = 9 := by decide +kernel
theorem pu_ln93 : pu_ln 93 = 9 := by decide +kernel
theorem pu_ln94 : pu_ln 94 = 9 := by decide +kernel
theorem pu_ln95 : pu_ln 95 = 12 := by decide +kernel
theorem pu_ln96 : pu_ln 96 = 12 := by decide +kernel
theorem pu_ln97 : pu_ln 97 = 12 := by decide +kernel
theorem pu_ln98 : pu_ln 98 = 12 := by decide +kernel
theorem pu_ln99 : pu_ln 99 = 8 := by decide +kernel
theorem pu_ln100 : pu_ln 100 = 8 := by decide +kernel
theorem pu_ln101 : pu_ln 101 = 8 := by decide +kernel
theorem pu_ln102 : pu_ln 102 = 6 := by decide +kernel
theorem pu_ln103 : pu_ln 103 = 8 := by decide +kernel
theorem pu_ln104 : pu_ln 104 = 8 := by decide +kernel
theorem pu_ln105 : pu_ln 105 = 8 := by decide +kernel
theorem pu_ln106 : pu_ln 106 = 8 := by decide +kernel
theorem pu_ln107 : pu_ln 107 = 8 := by decide +kernel
theorem pu_ln108 : pu_ln 108 = 960 := by decide +kernel
theorem pu_ln109 : pu_ln 109 = 120 := by decide +kernel
theorem pu_ln110 : pu_ln 110 = 70 := by decide +kernel
theorem pu_ln111 : pu_ln 111 = 11 := by decide +kernel
theorem pu_ln112 : pu_ln 112 = 180 := by decide +kernel
theorem pu_ln113 : pu_ln 113 = 120 := by decide +kernel
theorem pu_ln114 : pu_ln 114 = 1080 := by decide +kernel
theorem pu_ln115 : pu_ln 115 = 120 := by decide +kernel
theorem pu_ln116 : pu_ln 116 = 20 := by decide +kernel
theorem pu_ln117 : pu_ln 117 = 11 := by decide +kernel
theorem pu_r0_0 : pu_rf 0 0 = 1 := by decide +kernel
theorem pu_r0_1 : pu_rf 0 1 = 17 := by decide +kernel
theorem pu_r0_2 : pu_rf 0 2 = 33 := by decide +kernel
theorem pu_r0_4 : pu_rf 0 4 = 49 := by decide +kernel
theorem pu_r0_5 : pu_rf 0 5 = 50 := by decide +kernel
theorem pu_r0_6 : pu_rf 0 6 = 52 := by decide +kernel
theorem pu_r0_7 : pu_rf 0 7 = 56 := by decide +kernel
theorem pu_r0_8 : pu_rf 0 8 = 66 := by decide +kernel
theorem pu_r0_9 : pu_rf 0 9 = 68 := by decide +kernel
theorem pu_r1_0 : pu_rf 1 0 = 2 := by decide +kernel
theorem pu_r1_1 : pu_rf 1 1 = 3 := by decide +kernel
theorem pu_r1_2 : pu_rf 1 2 = 5 := by decide +kernel
theorem pu_r1_3 : pu_rf 1 3 = 7 := by decide +kernel
theorem pu_r1_4 : pu_rf 1 4 = 9 := by decide +kernel
theorem pu_r1_5 : pu_rf 1 5 = 11 := by decide +kernel
theorem pu_r1_6 : pu_rf 1 6 = 13 := by decide +kernel
theorem pu_r1_7 : pu_rf 1 7 = 15 := by decide +kernel
theorem pu_r3_1 : pu_rf 3 1 = 4 := by decide +kernel
theorem pu_r5_1 : pu_rf 5 1 = 6 := by decide +kernel
theorem pu_r7_1 : pu_rf 7 1 = 8 := by decide +kernel
theorem pu_r9_1 : pu_rf 9 1 = 10 := by decide +kernel
theorem pu_r11_1 : pu_rf 11 1 = 12 := by decide +kernel
theorem pu_r13_1 : pu_rf 13 1 = 14 := by decide +kernel
theorem pu_r15_1 : pu_rf 15 1 = 16 := by decide +kernel
theorem pu_r17_0 : pu_rf 17 0 = 18 := by decide +kernel
theorem pu_r17_1 : pu_rf 17 1 = 19 := by decide +kernel
theorem pu_r17_2 : pu_rf 17 2 = 21 := by decide +kernel
theorem pu_r17_3 : pu_rf 17 3 = 23 := by decide +kernel
theorem pu_r17_4 : pu_rf 17 4 = 25 := by decide +kernel
theorem pu_r17_5 : pu_rf 17 5 = 27 := by decide +kernel
theorem pu_r17_6 : pu_rf 17 6 = 29 := by decide +kernel
theorem pu_r17_7 : pu_rf 17 7 = 31 := by decide +kernel
theorem pu_r19_1 : pu_rf 19 1 = 20 := by decide +kernel
theorem pu_r21_1 : pu_rf 21 1 = 22 := by decide +kernel
theorem pu_r23_1 : pu_rf 23 1 = 24 := by decide +kernel
theorem pu_r25_1 : pu_rf 25 1 = 26 := by decide +kernel
theorem pu_r27_1 : pu_rf 27 1 = 28 := by decide +kernel
theorem pu_r29_1 : pu_rf 29 1 = 30 := by decide +kernel
theorem pu_r31_1 : pu_rf 31 1 = 32 := by decide +kernel
theorem pu_r33_0 : pu_rf 33 0 = 34 := by decide +kernel
theorem pu_r33_1 : pu_rf 33 1 = 35 := by decide +kernel
theorem pu_r33_2 : pu_rf 33 2 = 37 := by decide +kernel
theorem pu_r33_3 : pu_rf 33 3 = 39 := by decide +kernel
theorem pu_r33_4 : pu_rf 33 4 = 41 := by decide +kernel
theorem pu_r33_5 : pu_rf 33 5 = 43 := by decide +kernel
theorem pu_r33_6 : pu_rf 33 6 = 45 := by decide +kernel
theorem pu_r33_7 : pu_rf 33 7 = 47 := by decide +kernel
theorem pu_r35_1 : pu_rf 35 1 = 36 := by decide +kernel
theorem pu_r37_1 : pu_rf 37 1 = 38 := by decide +kernel
theorem pu_r39_1 : pu_rf 39 1 = 40 := by decide +kernel
theorem pu_r41_1 : pu_rf 41 1 = 42 := by decide +kernel
theorem pu_r43_1 : pu_rf 43 1 = 44 := by decide +kernel
theorem pu_r45_1 : pu_rf 45 1 = 46 := by decide +kernel
theorem pu_r47_1 : pu_rf 47 1 = 48 := by decide +kernel
theorem pu_r50_0 : pu_rf 50 0 = 51 := by decide +kernel
theorem pu_r52_0 : pu_rf 52 0 = 53 := by decide +kernel
theorem pu_r52_1 : pu_rf 52 1 = 54 := by decide +kernel
theorem pu_r52_2 : pu_rf 52 2 = 55 := by decide +kernel
theorem pu_r56_0 : pu_rf 56 0 = 57 := by decide +kernel
theorem pu_r56_1 : pu_rf 56 1 = 58 := by decide +kernel
theorem pu_r56_2 : pu_rf 56 2 = 59 := by decide +kernel
theorem pu_r56_3 : pu_rf 56 3 = 60 := by decide +kernel
theorem pu_r56_4 : pu_rf 56 4 = 61 := by decide +kernel
theorem pu_r56_5 : pu_rf 56 5 = 62 := by decide +kernel
theorem pu_r62_0 : pu_rf 62 0 = 63 := by decide +kernel
theorem pu_r62_1 : pu_rf 62 1 = 64 := by decide +kernel
theorem pu_r62_2 : pu_rf 62 2 = 65 := by decide +kernel
theorem pu_r66_0 : pu_rf 66 0 = 67 := by decide +kernel
theorem pu_r69_0 : pu_rf 69 0 = 70 := by decide +kernel
theorem pu_r71_0 : pu_rf 71 0 = 72 := by decide +kernel
theorem pu_r73_0 : pu_rf 73 0 = 74 := by decide +kernel
theorem pu_r75_0 : pu_rf 75 0 = 76 := by decide +kernel
theorem pu_r77_0 : pu_rf 77 0 = 78 := by decide +kernel
theorem pu_r79_0 : pu_rf 79 0 = 80 := by decide +kernel
theorem pu_r81_0 : pu_rf 81 0 = 82 := by decide +kernel
theorem pu_r83_0 : pu_rf 83 0 = 84 := by decide +kernel
theorem pu_r85_12 : pu_rf 85 12 = 86 := by decide +kernel
theorem pu_r85_13 : pu_rf 85 13 = 87 := by decide +kernel
theorem pu_r85_14 : pu_rf 85 14 = 88 := by decide +kernel
theorem pu_r85_15 : pu_rf 85 15 = 89 := by decide +kernel
theorem pu_r85_16 : pu_rf 85 16 = 90 := by decide +kernel
theorem pu_r85_17 : pu_rf 85 17 = 91 := by decide +kernel
theorem pu_r85_18 : pu_rf 85 18 = 92 := by decide +kernel
theorem pu_r85_19 : pu_rf 85 19 = 93 := by decide +kernel
theorem pu_r85_20 : pu_rf 85 20 = 94 := by decide +kernel
theorem pu_r85_21 : pu_rf 85 21 = 95 := by decide +kernel
theorem pu_r85_22 : pu_rf 85 22 = 96 := by decide +kernel
theorem pu_r85_23 : pu_rf 85 23 = 97 := by decide +kernel
theorem pu_r85_24 : pu_rf 85 24 = 98 := by decide +kernel
theorem pu_r85_25 : pu_rf 85 25 = 99 := by decide +kernel
theorem pu_r85_26 : pu_rf 85 26 = 100 := by decide +kernel
theorem pu_r85_27 : pu_rf 85 27 = 101 := by decide +kernel
theorem pu_r85_28 : pu_rf 85 28 = 102 := by decide +kernel
theorem pu_r85_29 : pu_rf 85 29 = 103 := by decide +kernel
theorem pu_r85_30 : pu_rf 85 30 = 104 := by decide +kernel
theorem pu_r85_31 : pu_rf 85 31 = 105 := by decide +kernel
theorem pu_r85_32 : pu_rf 85 32 = 106 := by decide +kernel
theorem pu_r85_33 : pu_rf 85 33 = 107 := by decide +kernel
theorem pu_r85_34 : pu_rf 85 34 = 108 := by decide +kernel
theorem pu_r85_35 : pu_rf 85 35 = 109 := by decide +kernel
theorem pu_r85_36 : pu_rf 85 36 = 110 := by decide +kernel
theorem pu_r85_42 : pu_rf 85 42 = 111 := by decide +kernel
theorem pu_r85_43 : pu_rf 85 43 = 112 := by decide +kernel
theorem pu_r85_44 : pu_rf 85 44 = 113 := by decide +kernel
theorem pu_r85_46 : pu_rf 85 46 = 114 := by decide +kernel
theorem pu_r85_47 : pu_rf 85 47 = 115 := by decide +kernel
theorem pu_r85_48 : pu_rf 85 48 = 116 := by decide +kernel
theorem pu_r85_50 : pu_rf 85 50 = 117 := by decide +kernel
theorem pu_r49_0 : pu_rf 49 0 = 69 := by decide +kernel
theorem pu_r49_1 : pu_rf 49 1 = 71 := by decide +kernel
theorem pu_r49_2 : pu_rf 49 2 = 73 := by decide +kernel
theorem pu_r49_3 : pu_rf 49 3 = 75 := by decide +kernel
theorem pu_r49_4 : pu_rf 49 4 = 77 := by decide +kernel
theorem pu_r49_5 : pu_rf 49 5 = 79 := by decide +kernel
theorem pu_r49_6 : pu_rf 49 6 = 81 := by decide +kernel
theorem pu_r49_7 : pu_rf 49 7 = 83 := by decide +kernel
theorem pu_kr0_0 : 0 < 9 ∧ 0 < px_nf 0 ∧ ¬ px_kind 0 0 < 2 := by decide +kernel
theorem pu_f0_0 {q : Nat} (h : pu_cl q = 0) : pu_cl (pu_rf q 0) = 100 := by
  have := pu_all (p := fun q => decide (¬ pu_cl q = 0) || decide (pu_cl (pu_rf q 0) = 100)) (by decide +kernel) h (by decide)
  simpa [h] using this
theorem pu_l0_0 {q : Nat} (h : pu_cl q = 0) : pu_ln (pu_rf q 0) = 20 := by
  have := pu_all (p := fun q => decide (¬ pu_cl q = 0) || decide (pu_ln (pu_rf q 0) = 20)) (by decide +kernel) h (by decide)
  simpa [h] using this
theorem pu_k0_1 : 0 < 9 ∧ 1 < px_nf 0 ∧ px_kind 0 1 < 2 := by decide +kernel
theorem pu_p0_1 : 0 < 9 ∧ 1 < px_nf 0 ∧ px_kind 0 1 = 0 ∧ px_fin 0 1 = false := by decide +kernel
theorem pu_k0_2 : 0 < 9 ∧ 2 < px_nf 0 ∧ px_kind 0 2 < 2 := by decide +kernel
theorem pu_p0_2 : 0 < 9 ∧ 2 < px_nf 0 ∧ px_kind 0 2 = 0 ∧ px_fin 0 2 = false := by decide +kernel
theorem pu_k0_3 : 0 < 9 ∧ 3 < px_nf 0 ∧ px_kind 0 3 < 2 := by decide +kernel
theorem pu_p0_3 : 0 < 9 ∧ 3 < px_nf 0 ∧ px_kind 0 3 = 0 ∧ px_fin 0 3 = false := by decide +kernel
theorem pu_k0_4 : 0 < 9 ∧ 4 < px_nf 0 ∧ px_kind 0 4 < 2 := by decide +kernel
theorem pu_p0_4 : 0 < 9 ∧ 4 < px_nf 0 ∧ px_kind 0 4 = 0 ∧ px_fin 0 4 = false := by decide +kernel
theorem pu_kr1_0 : 1 < 9 ∧ 0 < px_nf 1 ∧ ¬ px_kind 1 0 < 2 := by decide +kernel
theorem pu_f1_0 {q : Nat} (h : pu_cl q = 1) : pu_cl (pu_rf q 0) = 100 := by
  have := pu_all (p := fun q => decide (¬ pu_cl q = 1) || decide (pu_cl (pu_rf q 0) = 100)) (by decide +kernel) h (by decide)
  simpa [h] using this
theorem pu_l1_0 {q : Nat} (h : pu_cl q = 1) : pu_ln (pu_rf q 0) = 1080 := by
  have := pu_all (p := fun q => decide (¬ pu_cl q = 1) || decide (pu_ln (pu_rf q 0) = 1080)) (by decide +kernel) h (by decide)
  simpa [h] using this
theorem pu_kr1_1 : 1 < 9 ∧ 1 < px_nf 1 ∧ ¬ px_kind 1 1 < 2 := by decide +kernel
theorem pu_f1_1 {q : Nat} (h : pu_cl q = 1) : pu_cl (pu_rf q 1) = 100 := by
  have := pu_all (p := fun q => decide (¬ pu_cl q = 1) || decide (pu_cl (pu_rf q 1) = 100)) (by decide +kernel) h (by decide)
  simpa [h] using this
theorem pu_l1_1 {q : Nat} (h : pu_cl q = 1) : pu_ln (pu_rf q 1) = 120 := by
  have := pu_all (p := fun q => decide (¬ pu_cl q = 1) || decide (pu_ln (pu_rf q 1) = 120)) (by decide +kernel) h (by decide)
  simpa [h] using this
theorem pu_kr1_2 : 1 < 9 ∧ 2 < px_nf 1 ∧ ¬ px_kind 1 2 < 2 := by decide +kernel
theorem pu_f1_2 {q : Nat} (h : pu_cl q = 1) : pu_cl (pu_rf q 2) = 100 := by
  have := pu_all (p := fun q => decide (¬ pu_cl q = 1) || decide (pu_cl (pu_rf q 2) = 100)) (by decide +kernel) h (by decide)
  simpa [h] using this
theorem pu_l1_2 {q : Nat} (h : pu_cl q = 1) : pu_ln (pu_rf q 2) = 120 := by
  have := pu_all (p := fun q => decide (¬ pu_cl q = 1) || decide (pu_ln (pu_rf q 2) = 120)) (by decide +kernel) h (by decide)
  simpa [h] using this
theorem pu_kr1_3 : 1 < 9 ∧ 3 < px_nf 1 ∧ ¬ px_kind 1 3 < 2 := by decide +kernel
theorem pu_f1_3 {q : Nat} (h : pu_cl q = 1) : pu_cl (pu_rf q 3) = 100 := by
  have := pu_all (p := fun q => decide (¬ pu_cl q = 1) || decide (pu_cl (pu_rf q 3) = 100)) (by decide +kernel) h (by decide)
  simpa [h] using this
theorem pu_l1_3 {q : Nat} (h : pu_cl q = 1) : pu_ln (pu_rf q 3) = 120 := by
  have := pu_all (p := fun q => decide (¬ pu_cl q = 1) || decide (pu_ln (pu_rf q 3) = 120)) (by decide +kernel) h (by decide)
  simpa [h] using this
theorem pu_kr1_4 : 1 < 9 ∧ 4 < px_nf 1 ∧ ¬ px_kind 1 4 < 2 := by decide +kernel
theorem pu_f1_4 {q : Nat} (h : pu_cl q = 1) : pu_cl (pu_rf q 4) = 100 := by
  have := pu_all (p := fun q => decide (¬ pu_cl q = 1) || decide (pu_cl (pu_rf q 4) = 100)) (by decide +kernel) h (by decide)
  simpa [h] using this
theorem pu_l1_4 {q : Nat} (h : pu_cl q = 1) : pu_ln (pu_rf q 4) = 9 := by
  have := pu_all (p := fun q => decide (¬ pu_cl q = 1) || decide (pu_ln (pu_rf q 4) = 9)) (by decide +kernel) h (by decide)
  simpa [h] using this
theorem pu_kr1_5 : 1 < 9 ∧ 5 < px_nf 1 ∧ ¬ px_kind 1 5 < 2 := by decide +kernel
theorem pu_f1_5 {q : Nat} (h : pu_cl q = 1) : pu_cl (pu_rf q 5) = 2 := by
  have := pu_all (p := fun q => decide (¬ pu_cl q = 1) || decide (pu_cl (pu_rf q 5) = 2)) (by decide +kernel) h (by decide)
  simpa [h] using this
theorem pu_k1_6 : 1 < 9 ∧ 6 < px_nf 1 ∧ px_kind 1 6 < 2 := by decide +kernel
theorem pu_p1_6 : 1 < 9 ∧ 6 < px_nf 1 ∧ px_kind 1 6 = 0 ∧ px_fin 1 6 = false := by decide +kernel
theorem pu_k1_7 : 1 < 9 ∧ 7 < px_nf 1 ∧ px_kind 1 7 < 2 := by decide +kernel
theorem pu_p1_7 : 1 < 9 ∧ 7 < px_nf 1 ∧ px_kind 1 7 = 0 ∧ px_fin 1 7 = false := by decide +kernel
theorem pu_kr2_0 : 2 < 9 ∧ 0 < px_nf 2 ∧ ¬ px_kind 2 0 < 2 := by decide +kernel
theorem pu_f2_0 {q : Nat} (h : pu_cl q = 2) : pu_cl (pu_rf q 0) = 101 := by
  have := pu_all (p := fun q => decide (¬ pu_cl q = 2) || decide (pu_cl (pu_rf q 0) = 101)) (by decide +kernel) h (by decide)
  simpa [h] using this
theorem pu_l2_0 {q : Nat} (h : pu_cl q = 2) : pu_ln (pu_rf q 0) = 120 := by
  have := pu_all (p := fun q => decide (¬ pu_cl q = 2) || decide (pu_ln (pu_rf q 0) = 120)) (by decide +kernel) h (by decide)
  simpa [h] using this
theorem pu_kr2_1 : 2 < 9 ∧ 1 < px_nf 2 ∧ ¬ px_kind 2 1 < 2 := by decide +kernel
theorem pu_f2_1 {q : Nat} (h : pu_cl q = 2) : pu_cl (pu_rf q 1) = 100 := by
  have := pu_all (p := fun q => decide (¬ pu_cl q = 2) || decide (pu_cl (pu_rf q 1) = 100)) (by decide +kernel) h (by decide)
  simpa [h] using this
theorem pu_l2_1 {q : Nat} (h : pu_cl q = 2) : pu_ln (pu_rf q 1) = 120 := by
  have := pu_all (p := fun q => decide (¬ pu_cl q = 2) || decide (pu_ln (pu_rf q 1) = 120)) (by decide +kernel) h (by decide)
  simpa [h] using this
theorem pu_kr2_2 : 2 < 9 ∧ 2 < px_nf 2 ∧ ¬ px_kind 2 2 < 2 := by decide +kernel
theorem pu_f2_2 {q : Nat} (h : pu_cl q = 2) : pu_cl (pu_rf q 2) = 100 := by
  have := pu_all (p := fun q => decide (¬ pu_cl q = 2) || decide (pu_cl (pu_rf q 2) = 100)) (by decide +kernel) h (by decide)
  simpa [h] using this
theorem pu_l2_2 {q : Nat} (h : pu_cl q = 2) : pu_ln (pu_rf q 2) = 120 := by
  have := pu_all (p := fun q => decide (¬ pu_cl q = 2) || decide (pu_ln (pu_rf q 2) = 120)) (by decide +kernel) h (by decide)
  simpa [h] using this
theorem pu_k2_3 : 2 < 9 ∧ 3 < px_nf 2 ∧ px_kind 2 3 < 2 := by decide +kernel
theorem pu_p2_3 : 2 < 9 ∧ 3 < px_nf 2 ∧ px_kind 2 3 = 0 ∧ px_fin 2 3 = false := by decide +kernel
theorem pu_kr3_0 : 3 < 9 ∧ 0 < px_nf 3 ∧ ¬ px_kind 3 0 < 2 := by decide +kernel
theorem pu_f3_0 {q : Nat} (h : pu_cl q = 3) : pu_cl (pu_rf q 0) = 102 := by
  have := pu_all (p := fun q => decide (¬ pu_cl q = 3) || decide (pu_cl (pu_rf q 0) = 102)) (by decide +kernel) h (by decide)
  simpa [h] using this
theorem pu_l3_0 {q : Nat} (h : pu_cl q = 3) : pu_ln (pu_rf q 0) = 120 := by
  have := pu_all (p := fun q => decide (¬ pu_cl q = 3) || decide (pu_ln (pu_rf q 0) = 120)) (by decide +kernel) h (by decide)
  simpa [h] using this
theorem pu_k3_1 : 3 < 9 ∧ 1 < px_nf 3 ∧ px_kind 3 1 < 2 := by decide +kernel
theorem pu_p3_1 : 3 < 9 ∧ 1 < px_nf 3 ∧ px_kind 3 1 = 0 ∧ px_fin 3 1 = false := by decide +kernel
theorem pu_k3_2 : 3 < 9 ∧ 2 < px_nf 3 ∧ px_kind 3 2 < 2 := by decide +kernel
theorem pu_p3_2 : 3 < 9 ∧ 2 < px_nf 3 ∧ px_kind 3 2 = 0 ∧ px_fin 3 2 = false := by decide +kernel
theorem pu_k3_3 : 3 < 9 ∧ 3 < px_nf 3 ∧ px_kind 3 3 < 2 := by decide +kernel
theorem pu_p3_3 : 3 < 9 ∧ 3 < px_nf 3 ∧ px_kind 3 3 = 0 ∧ px_fin 3 3 = false := by decide +kernel
theorem pu_k3_4 : 3 < 9 ∧ 4 < px_nf 3 ∧ px_kind 3 4 < 2 := by decide +kernel
theorem pu_p3_4 : 3 < 9 ∧ 4 < px_nf 3 ∧ px_kind 3 4 = 0 ∧ px_fin 3 4 = false := by decide +kernel
theorem pu_kr4_0 : 4 < 9 ∧ 0 < px_nf 4 ∧ ¬ px_kind 4 0 < 2 := by decide +kernel
theorem pu_f4_0 {q : Nat} (h : pu_cl q = 4) : pu_cl (pu_rf q 0) = 100 := by
  have := pu_all (p := fun q => decide (¬ pu_cl q = 4) || decide (pu_cl (pu_rf q 0) = 100)) (by decide +kernel) h (by decide)
  simpa [h] using this
theorem pu_l4_0 {q : Nat} (h : pu_cl q = 4) : pu_ln (pu_rf q 0) = 4 := by
  have := pu_all (p := fun q => decide (¬ pu_cl q = 4) || decide (pu_ln (pu_rf q 0) = 4)) (by decide +kernel) h (by decide)
  simpa [h] using this
theorem pu_kr4_1 : 4 < 9 ∧ 1 < px_nf 4 ∧ ¬ px_kind 4 1 < 2 := by decide +kernel
theorem pu_f4_1 {q : Nat} (h : pu_cl q = 4) : pu_cl (pu_rf q 1) = 6 := by
  have := pu_all (p := fun q => decide (¬ pu_cl q = 4) || decide (pu_cl (pu_rf q 1) = 6)) (by decide +kernel) h (by decide)
  simpa [h] using this
theorem pu_kr4_2 : 4 < 9 ∧ 2 < px_nf 4 ∧ ¬ px_kind 4 2 < 2 := by decide +kernel
theorem pu_f4_2 {q : Nat} (h : pu_cl q = 4) : pu_cl (pu_rf q 2) = 6 := by
  have := pu_all (p := fun q => decide (¬ pu_cl q = 4) || decide (pu_cl (pu_rf q 2) = 6)) (by decide +kernel) h (by decide)
  simpa [h] using this
theorem pu_kr4_3 : 4 < 9 ∧ 3 < px_nf 4 ∧ ¬ px_kind 4 3 < 2 := by decide +kernel
theorem pu_f4_3 {q : Nat} (h : pu_cl q = 4) : pu_cl (pu_rf q 3) = 6 := by
  have := pu_all (p := fun q => decide (¬ pu_cl q = 4) || decide (pu_cl (pu_rf q 3) = 6)) (by decide +kernel) h (by decide)
  simpa [h] using this
theorem pu_kr4_4 : 4 < 9 ∧ 4 < px_nf 4 ∧ ¬ px_kind 4 4 < 2 := by decide +kernel
theorem pu_f4_4 {q : Nat} (h : pu_cl q = 4) : pu_cl (pu_rf q 4) = 6 := by
  have := pu_all (p := fun q => decide (¬ pu_cl q = 4) || decide (pu_cl (pu_rf q 4) = 6)) (by decide +kernel) h (by decide)
  simpa [h] using this
theorem pu_kr4_5 : 4 < 9 ∧ 5 < px_nf 4 ∧ ¬ px_kind 4 5 < 2 := by decide +kernel
theorem pu_f4_5 {q : Nat} (h : pu_cl q = 4) : pu_cl (pu_rf q 5) = 6 := by
  have := pu_all (p := fun q => decide (¬ pu_cl q = 4) || decide (pu_cl (pu_rf q 5) = 6)) (by decide +kernel) h (by decide)
  simpa [h] using this
theorem pu_kr4_6 : 4 < 9 ∧ 6 < px_nf 4 ∧ ¬ px_kind 4 6 < 2 := by decide +kernel
theorem pu_f4_6 {q : Nat} (h : pu_cl q = 4) : pu_cl (pu_rf q 6) = 6 := by
  have := pu_all (p := fun q => decide (¬ pu_cl q = 4) || decide (pu_cl (pu_rf q 6) = 6)) (by decide +kernel) h (by decide)
  simpa [h] using this
theorem pu_kr4_7 : 4 < 9 ∧ 7 < px_nf 4 ∧ ¬ px_kind 4 7 < 2 := by decide +kernel
theorem pu_f4_7 {q : Nat} (h : pu_cl q = 4) : pu_cl (pu_rf q 7) = 6 := by
  have := pu_all (p := fun q => decide (¬ pu_cl q = 4) || decide (pu_cl (pu_rf q 7) = 6)) (by decide +kernel) h (by decide)
  simpa [h] using this
theorem pu_kr5_0 : 5 < 9 ∧ 0 < px_nf 5 ∧ ¬ px_kind 5 0 < 2 := by decide +kernel
theorem pu_f5_0 {q : Nat} (h : pu_cl q = 5) : pu_cl (pu_rf q 0) = 100 := by
  have := pu_all (p := fun q => decide (¬ pu_cl q = 5) || decide (pu_cl (pu_rf q 0) = 100)) (by decide +kernel) h (by decide)
  simpa [h] using this
theorem pu_l5_0 {q : Nat} (h : pu_cl q = 5) : pu_ln (pu_rf q 0) = 4 := by
  have := pu_all (p := fun q => decide (¬ pu_cl q = 5) || decide (pu_ln (pu_rf q 0) = 4)) (by decide +kernel) h (by decide)
  simpa [h] using this
theorem pu_k5_1 : 5 < 9 ∧ 1 < px_nf 5 ∧ px_kind 5 1 < 2 := by decide +kernel
theorem pu_p5_1 : 5 < 9 ∧ 1 < px_nf 5 ∧ px_kind 5 1 = 0 ∧ px_fin 5 1 = false := by decide +kernel
theorem pu_k5_2 : 5 < 9 ∧ 2 < px_nf 5 ∧ px_kind 5 2 < 2 := by decide +kernel
theorem pu_p5_2 : 5 < 9 ∧ 2 < px_nf 5 ∧ px_kind 5 2 = 0 ∧ px_fin 5 2 = false := by decide +kernel
theorem pu_k6_0 : 6 < 9 ∧ 0 < px_nf 6 ∧ px_kind 6 0 < 2 := by decide +kernel
theorem pu_kr6_1 : 6 < 9 ∧ 1 < px_nf 6 ∧ ¬ px_kind 6 1 < 2 := by decide +kernel
theorem pu_f6_1 {q : Nat} (h : pu_cl q = 6) : pu_cl (pu_rf q 1) = 100 := by
  have := pu_all (p := fun q => decide (¬ pu_cl q = 6) || decide (pu_cl (pu_rf q 1) = 100)) (by decide +kernel) h (by decide)
  simpa [h] using this
theorem pu_k6_2 : 6 < 9 ∧ 2 < px_nf 6 ∧ px_kind 6 2 < 2 := by decide +kernel
theorem pu_p6_2 : 6 < 9 ∧ 2 < px_nf 6 ∧ px_kind 6 2 = 0 ∧ px_fin 6 2 = false := by decide +kernel
theorem pu_kr7_0 : 7 < 9 ∧ 0 < px_nf 7 ∧ ¬ px_kind 7 0 < 2 := by decide +kernel
theorem pu_f7_0 {q : Nat} (h : pu_cl q = 7) : pu_cl (pu_rf q 0) = 4 := by
  have := pu_all (p := fun q => decide (¬ pu_cl q = 7) || decide (pu_cl (pu_rf q 0) = 4)) (by decide +kernel) h (by decide)
  simpa [h] using this
theorem pu_kr7_1 : 7 < 9 ∧ 1 < px_nf 7 ∧ ¬ px_kind 7 1 < 2 := by decide +kernel
theorem pu_f7_1 {q : Nat} (h : pu_cl q = 7) : pu_cl (pu_rf q 1) = 4 := by
  have := pu_all (p := fun q => decide (¬ pu_cl q = 7) || decide (pu_cl (pu_rf q 1) = 4)) (by decide +kernel) h (by decide)
  simpa [h] using this
theorem pu_kr7_2 : 7 < 9 ∧ 2 < px_nf 7 ∧ ¬ px_kind 7 2 < 2 := by decide +kernel
theorem pu_f7_2 {q : Nat} (h : pu_cl q = 7) : pu_cl (pu_rf q 2) = 4 := by
  have := pu_all (p := fun q => decide (¬ pu_cl q = 7) || decide (pu_cl (pu_rf q 2) = 4)) (by decide +kernel) h (by decide)
  simpa [h] using this
theorem pu_k7_3 : 7 < 9 ∧ 3 < px_nf 7 ∧ px_kind 7 3 < 2 := by decide +kernel
theorem pu_p7_3 : 7 < 9 ∧ 3 < px_nf 7 ∧ px_kind 7 3 = 1 ∧ px_fin 7 3 = false := by decide +kernel
theorem pu_kr7_4 : 7 < 9 ∧ 4 < px_nf 7 ∧ ¬ px_kind 7 4 < 2 := by decide +kernel
theorem pu_f7_4 {q : Nat} (h : pu_cl q = 7) : pu_cl (pu_rf q 4) = 103 := by
  have := pu_all (p := fun q => decide (¬ pu_cl q = 7) || decide (pu_cl (pu_rf q 4) = 103)) (by decide +kernel) h (by decide)
  simpa [h] using this
theorem pu_l7_4 {q : Nat} (h : pu_cl q = 7) : pu_ln (pu_rf q 4) = 8 := by
  have := pu_all (p := fun q => decide (¬ pu_cl q = 7) || decide (pu_ln (pu_rf q 4) = 8)) (by decide +kernel) h (by decide)
  simpa [h] using this
theorem pu_kr7_5 : 7 < 9 ∧ 5 < px_nf 7 ∧ ¬ px_kind 7 5 < 2 := by decide +kernel
theorem pu_f7_5 {q : Nat} (h : pu_cl q = 7) : pu_cl (pu_rf q 5) = 5 := by
  have := pu_all (p := fun q => decide (¬ pu_cl q = 7) || decide (pu_cl (pu_rf q 5) = 5)) (by decide +kernel) h (by decide)
  simpa [h] using this
theorem pu_kr7_6 : 7 < 9 ∧ 6 < px_nf 7 ∧ ¬ px_kind 7 6 < 2 := by decide +kernel
theorem pu_f7_6 {q : Nat} (h : pu_cl q = 7) : pu_cl (pu_rf q 6) = 2 := by
  have := pu_all (p := fun q => decide (¬ pu_cl q = 7) || decide (pu_cl (pu_rf q 6) = 2)) (by decide +kernel) h (by decide)
  simpa [h] using this
theorem pu_kr7_7 : 7 < 9 ∧ 7 < px_nf 7 ∧ ¬ px_kind 7 7 < 2 := by decide +kernel
theorem pu_f7_7 {q : Nat} (h : pu_cl q = 7) : pu_cl (pu_rf q 7) = 1 := by
  have := pu_all (p := fun q => decide (¬ pu_cl q = 7) || decide (pu_cl (pu_rf q 7) = 1)) (by decide +kernel) h (by decide)
  simpa [h] using this
theorem pu_kr7_8 : 7 < 9 ∧ 8 < px_nf 7 ∧ ¬ px_kind 7 8 < 2 := by decide +kernel
theorem pu_f7_8 {q : Nat} (h : pu_cl q = 7) : pu_cl (pu_rf q 8) = 0 := by
  have := pu_all (p := fun q => decide (¬ pu_cl q = 7) || decide (pu_cl (pu_rf q 8) = 0)) (by decide +kernel) h (by decide)
  simpa [h] using this
theorem pu_kr7_9 : 7 < 9 ∧ 9 < px_nf 7 ∧ ¬ px_kind 7 9 < 2 := by decide +kernel
theorem pu_f7_9 {q : Nat} (h : pu_cl q = 7) : pu_cl (pu_rf q 9) = 100 := by
  have := pu_all (p := fun q => decide (¬ pu_cl q = 7) || decide (pu_cl (pu_rf q 9) = 100)) (by decide +kernel) h (by decide)
  simpa [h] using this
theorem pu_l7_9 {q : Nat} (h : pu_cl q = 7) : pu_ln (pu_rf q 9) = 8 := by
  have := pu_all (p := fun q => decide (¬ pu_cl q = 7) || decide (pu_ln (pu_rf q 9) = 8)) (by decide +kernel) h (by decide)
  simpa [h] using this
theorem pu_k7_10 : 7 < 9 ∧ 10 < px_nf 7 ∧ px_kind 7 10 < 2 := by decide +kernel
theorem pu_p7_10 : 7 < 9 ∧ 10 < px_nf 7 ∧ px_kind 7 10 = 0 ∧ px_fin 7 10 = false := by decide +kernel
theorem pu_k8_0 : 8 < 9 ∧ 0 < px_nf 8 ∧ px_kind 8 0 < 2 := by decide +kernel
theorem pu_p8_0 : 8 < 9 ∧ 0 < px_nf 8 ∧ px_kind 8 0 = 0 ∧ px_fin 8 0 = false := by decide +kernel
theorem pu_k8_1 : 8 < 9 ∧ 1 < px_nf 8 ∧ px_kind 8 1 < 2 := by decide +kernel
theorem pu_p8_1 : 8 < 9 ∧ 1 < px_nf 8 ∧ px_kind 8 1 = 0 ∧ px_fin 8 1 = false := by decide +kernel
theorem pu_k8_2 : 8 < 9 ∧ 2 < px_nf 8 ∧ px_kind 8 2 < 2 := by decide +kernel
theorem pu_p8_2 : 8 < 9 ∧ 2 < px_nf 8 ∧ px_kind 8 2 = 0 ∧ px_fin 8 2 = false := by decide +kernel
theorem pu_k8_3 : 8 < 9 ∧ 3 < px_nf 8 ∧ px_kind 8 3 < 2 := by decide +kernel
theorem pu_p8_3 : 8 < 9 ∧ 3 < px_nf 8 ∧ px_kind 8 3 = 0 ∧ px_fin 8 3 = false := by decide +kernel
theorem pu_k8_4 : 8 < 9 ∧ 4 < px_nf 8 ∧ px_kind 8 4 < 2 := by decide +kernel
theorem pu_p8_4 : 8 < 9 ∧ 4 < px_nf 8 ∧ px_kind 8 4 = 0 ∧ px_fin 8 4 = false := by decide +kernel
theorem pu_k8_5 : 8 < 9 ∧ 5 < px_nf 8 ∧ px_kind 8 5 < 2 := by decide +kernel
theorem pu_p8_5 : 8 < 9 ∧ 5 < px_nf 8 ∧ px_kind 8 5 = 0 ∧ px_fin 8 5 = false := by decide +kernel
theorem pu_k8_6 : 8 < 9 ∧ 6 < px_nf 8 ∧ px_kind 8 6 < 2 := by decide +kernel
theorem pu_p8_6 : 8 < 9 ∧ 6 < px_nf 8 ∧ px_kind 8 6 = 0 ∧ px_fin 8 6 = false := by decide +kernel
theorem pu_k8_7 : 8 < 9 ∧ 7 < px_nf 8 ∧ px_kind 8 7 < 2 := by decide +kernel
theorem pu_p8_7 : 8 < 9 ∧ 7 < px_nf 8 ∧ px_kind 8 7 = 0 ∧ px_fin 8 7 = false := by decide +kernel
theorem pu_k8_8 : 8 < 9 ∧ 8 < px_nf 8 ∧ px_kind 8 8 < 2 := by decide +kernel
theorem pu_p8_8 : 8 < 9 ∧ 8 < px_nf 8 ∧ px_kind 8 8 = 0 ∧ px_fin 8 8 = false := by decide +kernel
theorem pu_k8_9 : 8 < 9 ∧ 9 < px_nf 8 ∧ px_kind 8 9 < 2 := by decide +kernel
theorem pu_p8_9 : 8 < 9 ∧ 9 < px_nf 8 ∧ px_kind 8 9 = 0 ∧ px_fin 8 9 = false := by decide +kernel
theorem pu_k8_10 : 8 < 9 ∧ 10 < px_nf 8 ∧ px_kind 8 10 < 2 := by decide +kernel
theorem pu_p8_10 : 8 < 9 ∧ 10 < px_nf 8 ∧ px_kind 8 10 = 0 ∧ px_fin 8 10 = false := by decide +kernel
theorem pu_k8_11 : 8 < 9 ∧ 11 < px_nf 8 ∧ px_kind 8 11 < 2 := by decide +kernel
theorem pu_p8_11 : 8 < 9 ∧ 11 < px_nf 8 ∧ px_kind 8 11 = 0 ∧ px_fin 8 11 = false := by decide +kernel
theorem pu_kr8_12 : 8 < 9 ∧ 12 < px_nf 8 ∧ ¬ px_kind 8 12 < 2 := by decide +kernel
theorem pu_f8_12 {q : Nat} (h : pu_cl q = 8) : pu_cl (pu_rf q 12) = 100 := by
  have := pu_all (p := fun q => decide (¬ pu_cl q = 8) || decide (pu_cl (pu_rf q 12) = 100)) (by decide +kernel) h (by decide)
  simpa [h] using this
theorem pu_l8_12 {q : Nat} (h : pu_cl q = 8) : pu_ln (pu_rf q 12) = 8 := by
  have := pu_all (p := fun q => decide (¬ pu_cl q = 8) || decide (pu_ln (pu_rf q 12) = 8)) (by decide +kernel) h (by decide)
  simpa [h] using this
theorem pu_kr8_13 : 8 < 9 ∧ 13 < px_nf 8 ∧ ¬ px_kind 8 13 < 2 := by decide +kernel
theorem pu_f8_13 {q : Nat} (h : pu_cl q = 8) : pu_cl (pu_rf q 13) = 100 := by
  have := pu_all (p := fun q => decide (¬ pu_cl q = 8) || decide (pu_cl (pu_rf q 13) = 100)) (by decide +kernel) h (by decide)
  simpa [h] using this
theorem pu_l8_13 {q : Nat} (h : pu_cl q = 8) : pu_ln (pu_rf q 13) = 6 := by
  have := pu_all (p := fun q => decide (¬ pu_cl q = 8) || decide (pu_ln (pu_rf q 13) = 6)) (by decide +kernel) h (by decide)
  simpa [h] using this
theorem pu_kr8_14 : 8 < 9 ∧ 14 < px_nf 8 ∧ ¬ px_kind 8 14 < 2 := by decide +kernel
theorem pu_f8_14 {q : Nat} (h : pu_cl q = 8) : pu_cl (pu_rf q 14) = 100 := by
  have := pu_all (p := fun q => decide (¬ pu_cl q = 8) || decide (pu_cl (pu_rf q 14) = 100)) (by decide +kernel) h (by decide)
  simpa [h] using this
theorem pu_l8_14 {q : Nat} (h : pu_cl q = 8) : pu_ln (pu_rf q 14) = 6 := by
  have := pu_all (p := fun q => decide (¬ pu_cl q = 8) || decide (pu_ln (pu_rf q 14) = 6)) (by decide +kernel) h (by decide)
  simpa [h] using this
theorem pu_kr8_15 : 8 < 9 ∧ 15 < px_nf 8 ∧ ¬ px_kind 8 15 < 2 := by decide +kernel
theorem pu_f8_15 {q : Nat} (h : pu_cl q = 8) : pu_cl (pu_rf q 15) = 100 := by
  have := pu_all (p := fun q => decide (¬ pu_cl q = 8) || decide (pu_cl (pu_rf q 15) = 100)) (by decide +kernel) h (by decide)
  simpa [h] using this
theorem pu_l8_15 {q : Nat} (h : pu_cl q = 8) : pu_ln (pu_rf q 15) = 6 := by
  have := pu_all (p := fun q => decide (¬ pu_cl q = 8) || decide (pu_ln (pu_rf q 15) = 6)) (by decide +kernel) h (by decide)
  simpa [h] using this
theorem pu_kr8_16 : 8 < 9 ∧ 16 < px_nf 8 ∧ ¬ px_kind 8 16 < 2 := by decide +kernel
theorem pu_f8_16 {q : Nat} (h : pu_cl q = 8) : pu_cl (pu_rf q 16) = 100 := by
  have := pu_all (p := fun q => decide (¬ pu_cl q = 8) || decide (pu_cl (pu_rf q 16) = 100)) (by decide +kernel) h (by decide)
  simpa [h] using this
theorem pu_l8_16 {q : Nat} (h : pu_cl q = 8) : pu_ln (pu_rf q 16) = 6 := by
  have := pu_all (p := fun q => decide (¬ pu_cl q = 8) || decide (pu_ln (pu_rf q 16) = 6)) (by decide +kernel) h (by decide)
  simpa [h] using this
theorem pu_kr8_17 : 8 < 9 ∧ 17 < px_nf 8 ∧ ¬ px_kind 8 17 < 2 := by decide +kernel
theorem pu_f8_17 {q : Nat} (h : pu_cl q = 8) : pu_cl (pu_rf q 17) = 100 := by
  have := pu_all (p := fun q => decide (¬ pu_cl q = 8) || decide (pu_cl (pu_rf q 17) = 100)) (by decide +kernel) h (by decide)
  simpa [h] using this
theorem pu_l8_17 {q : Nat} (h : pu_cl q = 8) : pu_ln (pu_rf q 17) = 9 := by
  have := pu_all (p := fun q => decide (¬ pu_cl q = 8) || decide (pu_ln (pu_rf q 17) = 9)) (by decide +kernel) h (by decide)
  simpa [h] using this
theorem pu_kr8_18 : 8 < 9 ∧ 18 < px_nf 8 ∧ ¬ px_kind 8 18 < 2 := by decide +kernel
theorem pu_f8_18 {q : Nat} (h : pu_cl q = 8) : pu_cl (pu_rf q 18) = 100 := by
  have := pu_all (p := fun q => decide (¬ pu_cl q = 8) || decide (pu_cl (pu_rf q 18) = 100)) (by decide +kernel) h (by decide)
  simpa [h] using this
theorem pu_l8_18 {q : Nat} (h : pu_cl q = 8) : pu_ln (pu_rf q 18) = 9 := by
  have := pu_all (p := fun q => decide (¬ pu_cl q = 8) || decide (pu_ln (pu_rf q 18) = 9)) (by decide +kernel) h (by decide)
  simpa [h] using this
theorem pu_kr8_19 : 8 < 9 ∧ 19 < px_nf 8 ∧ ¬ px_kind 8 19 < 2 := by decide +kernel
theorem pu_f8_19 {q : Nat} (h : pu_cl q = 8) : pu_cl (pu_rf q 19) = 100 := by
  have := pu_all (p := fun q => decide (¬ pu_cl q = 8) || decide (pu_cl (pu_rf q 19) = 100)) (by decide +kernel) h (by decide)
  simpa [h] using this
theorem pu_l8_19 {q : Nat} (h : pu_cl q = 8) : pu_ln (pu_rf q 19) = 9 := by
  have := pu_all (p := fun q => decide (¬ pu_cl q = 8) || decide (pu_ln (pu_rf q 19) = 9)) (by decide +kernel) h (by decide)
  simpa [h] using this
theorem pu_kr8_20 : 8 < 9 ∧ 20 < px_nf 8 ∧ ¬ px_kind 8 20 < 2 := by decide +kernel
theorem pu_f8_20 {q : Nat} (h : pu_cl q = 8) : pu_cl (pu_rf q 20) = 100 := by
  have := pu_all (p := fun q => decide (¬ pu_cl q = 8) || decide (pu_cl (pu_rf q 20) = 100)) (by decide +kernel) h (by decide)
  simpa [h] using this
theorem pu_l8_20 {q : Nat} (h : pu_cl q = 8) : pu_ln (pu_rf q 20) = 9 := by
  have := pu_all (p := fun q => decide (¬ pu_cl q = 8) || decide (pu_ln (pu_rf q 20) = 9)) (by decide +kernel) h (by decide)
  simpa [h] using this
theorem pu_kr8_21 : 8 < 9 ∧ 21 < px_nf 8 ∧ ¬ px_kind 8 21 < 2 := by decide +kernel
theorem pu_f8_21 {q : Nat} (h : pu_cl q = 8) : pu_cl (pu_rf q 21) = 100 := by
  have := pu_all (p := fun q => decide (¬ pu_cl q = 8) || decide (pu_cl (pu_rf q 21) = 100)) (by decide +kernel) h (by decide)
  simpa [h] using this
theorem pu_l8_21 {q : Nat} (h : pu_cl q = 8) : pu_ln (pu_rf q 21) = 12 := by
  have := pu_all (p := fun q => decide (¬ pu_cl q = 8) || decide (pu_ln (pu_rf q 21) = 12)) (by decide +kernel) h (by decide)
  simpa [h] using this
theorem pu_kr8_22 : 8 < 9 ∧ 22 < px_nf 8 ∧ ¬ px_kind 8 22 < 2 := by decide +kernel
theorem pu_f8_22 {q : Nat} (h : pu_cl q = 8) : pu_cl (pu_rf q 22) = 100 := by
  have := pu_all (p := fun q => decide (¬ pu_cl q = 8) || decide (pu_cl (pu_rf q 22) = 100)) (by decide +kernel) h (by decide)
  simpa [h] using this
theorem pu_l8_22 {q : Nat} (h : pu_cl q = 8) : pu_ln (pu_rf q 22) = 12 := by
  have := pu_all (p := fun q => decide (¬ pu_cl q = 8) || decide (pu_ln (pu_rf q 22) = 12)) (by decide +kernel) h (by decide)
  simpa [h] using this
theorem pu_kr8_23 : 8 < 9 ∧ 23 < px_nf 8 ∧ ¬ px_kind 8 23 < 2 := by decide +kernel
theorem pu_f8_23 {q : Nat} (h : pu_cl q = 8) : pu_cl (pu_rf q 23) = 100 := by
  have := pu_all (p := fun q => decide (¬ pu_cl q = 8) || decide (pu_cl (pu_rf q 23) = 100)) (by decide +kernel) h (by decide)
  simpa [h] using this
theorem pu_l8_23 {q : Nat} (h : pu_cl q = 8) : pu_ln (pu_rf q 23) = 12 := by
  have := pu_all (p := fun q => decide (¬ pu_cl q = 8) || decide (pu_ln (pu_rf q 23) = 12)) (by decide +kernel) h (by decide)
  simpa [h] using this
theorem pu_kr8_24 : 8 < 9 ∧ 24 < px_nf 8 ∧ ¬ px_kind 8 24 < 2 := by decide +kernel
theorem pu_f8_24 {q : Nat} (h : pu_cl q = 8) : pu_cl (pu_rf q 24) = 100 := by
  have := pu_all (p := fun q => decide (¬ pu_cl q = 8) || decide (pu_cl (pu_rf q 24) = 100)) (by decide +kernel) h (by decide)
  simpa [h] using this
theorem pu_l8_24 {q : Nat} (h : pu_cl q = 8) : pu_ln (pu_rf q 24) = 12 := by
  have := pu_all (p := fun q => decide (¬ pu_cl q = 8) || decide (pu_ln (pu_rf q 24) = 12)) (by decide +kernel) h (by decide)
  simpa [h] using this
theorem pu_kr8_25 : 8 < 9 ∧ 25 < px_nf 8 ∧ ¬ px_kind 8 25 < 2 := by decide +kernel
theorem pu_f8_25 {q : Nat} (h : pu_cl q = 8) : pu_cl (pu_rf q 25) = 100 := by
  have := pu_all (p := fun q => decide (¬ pu_cl q = 8) || decide (pu_cl (pu_rf q 25) = 100)) (by decide +kernel) h (by decide)
  simpa [h] using this
theorem pu_l8_25 {q : Nat} (h : pu_cl q = 8) : pu_ln (pu_rf q 25) = 8 := by
  have := pu_all (p := fun q => decide (¬ pu_cl q = 8) || decide (pu_ln (pu_rf q 25) = 8)) (by decide +kernel) h (by decide)
  simpa [h] using this
theorem pu_kr8_26 : 8 < 9 ∧ 26 < px_nf 8 ∧ ¬ px_kind 8 26 < 2 := by decide +kernel
theorem pu_f8_26 {q : Nat} (h : pu_cl q = 8) : pu_cl (pu_rf q 26) = 100 := by
  have := pu_all (p := fun q => decide (¬ pu_cl q = 8) || decide (pu_cl (pu_rf q 26) = 100)) (by decide +kernel) h (by decide)
  simpa [h] using this
theorem pu_l8_26 {q : Nat} (h : pu_cl q = 8) : pu_ln (pu_rf q 26) = 8 := by
  have := pu_all (p := fun q => decide (¬ pu_cl q = 8) || decide (pu_ln (pu_rf q 26) = 8)) (by decide +kernel) h (by decide)
  simpa [h] using this
theorem pu_kr8_27 : 8 < 9 ∧ 27 < px_nf 8 ∧ ¬ px_kind 8 27 < 2 := by decide +kernel
theorem pu_f8_27 {q : Nat} (h : pu_cl q = 8) : pu_cl (pu_rf q 27) = 100 := by
  have := pu_all (p := fun q => decide (¬ pu_cl q = 8) || decide (pu_cl (pu_rf q 27) = 100)) (by decide +kernel) h (by decide)
  simpa [h] using this
theorem pu_l8_27 {q : Nat} (h : pu_cl q = 8) : pu_ln (pu_rf q 27) = 8 := by
  have := pu_all (p := fun q => decide (¬ pu_cl q = 8) || decide (pu_ln (pu_rf q 27) = 8)) (by decide +kernel) h (by decide)
  simpa [h] using this
theorem pu_kr8_28 : 8 < 9 ∧ 28 < px_nf 8 ∧ ¬ px_kind 8 28 < 2 := by decide +kernel
theorem pu_f8_28 {q : Nat} (h : pu_cl q = 8) : pu_cl (pu_rf q 28) = 100 := by
  have := pu_all (p := fun q => decide (¬ pu_cl q = 8) || decide (pu_cl (pu_rf q 28) = 100)) (by decide +kernel) h (by decide)
  simpa [h] using this
theorem pu_l8_28 {q : Nat} (h : pu_cl q = 8) : pu_ln (pu_rf q 28) = 6 := by
  have := pu_all (p := fun q => decide (¬ pu_cl q = 8) || decide (pu_ln (pu_rf q 28) = 6)) (by decide +kernel) h (by decide)
  simpa [h] using this
theorem pu_kr8_29 : 8 < 9 ∧ 29 < px_nf 8 ∧ ¬ px_kind 8 29 < 2 := by decide +kernel
theorem pu_f8_29 {q : Nat} (h : pu_cl q = 8) : pu_cl (pu_rf q 29) = 100 := by
  have := pu_all (p := fun q => decide (¬ pu_cl q = 8) || decide (pu_cl (pu_rf q 29) = 100)) (by decide +kernel) h (by decide)
  simpa [h] using this
theorem pu_l8_29 {q : Nat} (h : pu_cl q = 8) : pu_ln (pu_rf q 29) = 8 := by
  have := pu_all (p := fun q => decide (¬ pu_cl q = 8) || decide (pu_ln (pu_rf q 29) = 8)) (by decide +kernel) h (by decide)
  simpa [h] using this
theorem pu_kr8_30 : 8 < 9 ∧ 30 < px_nf 8 ∧ ¬ px_kind 8 30 < 2 := by decide +kernel
theorem pu_f8_30 {q : Nat} (h : pu_cl q = 8) : pu_cl (pu_rf q 30) = 100 := by
  have := pu_all (p := fun q => decide (¬ pu_cl q = 8) || decide (pu_cl (pu_rf q 30) = 100)) (by decide +kernel) h (by decide)
  simpa [h] using this
theorem pu_l8_30 {q : Nat} (h : pu_cl q = 8) : pu_ln (pu_rf q 30) = 8 := by
  have := pu_all (p := fun q => decide (¬ pu_cl q = 8) || decide (pu_ln (pu_rf q 30) = 8)) (by decide +kernel) h (by decide)
  simpa [h] using this
theorem pu_kr8_31 : 8 < 9 ∧ 31 < px_nf 8 ∧ ¬ px_kind 8 31 < 2 := by decide +kernel
theorem pu_f8_31 {q : Nat} (h : pu_cl q = 8) : pu_cl (pu_rf q 31) = 100 := by
  have := pu_all (p := fun q => decide (¬ pu_cl q = 8) || decide (pu_cl (pu_rf q 31) = 100)) (by decide +kernel) h (by decide)
  simpa [h] using this
theorem pu_l8_31 {q : Nat} (h : pu_cl q = 8) : pu_ln (pu_rf q 31) = 8 := by
  have := pu_all (p := fun q => decide (¬ pu_cl q = 8) || decide (pu_ln (pu_rf q 31) = 8)) (by decide +kernel) h (by decide)
  simpa [h] using this
theorem pu_kr8_32 : 8 < 9 ∧ 32 < px_nf 8 ∧ ¬ px_kind 8 32 < 2 := by decide +kernel
theorem pu_f8_32 {q : Nat} (h : pu_cl q = 8) : pu_cl (pu_rf q 32) = 100 := by
  have := pu_all (p := fun q => decide (¬ pu_cl q = 8) || decide (pu_cl (pu_rf q 32) = 100)) (by decide +kernel) h (by decide)
  simpa [h] using this
theorem pu_l8_32 {q : Nat} (h : pu_cl q = 8) : pu_ln (pu_rf q 32) = 8 := by
  have := pu_all (p := fun q => decide (¬ pu_cl q = 8) || decide (pu_ln (pu_rf q 32) = 8)) (by decide +kernel) h (by decide)
  simpa [h] using this
theorem pu_kr8_33 : 8 < 9 ∧ 33 < px_nf 8 ∧ ¬ px_kind 8 33 < 2 := by decide +kernel
theorem pu_f8_33 {q : Nat} (h : pu_cl q = 8) : pu_cl (pu_rf q 33) = 100 := by
  have := pu_all (p := fun q => decide (¬ pu_cl q = 8) || decide (pu_cl (pu_rf q 33) = 100)) (by decide +kernel) h (by decide)
  simpa [h] using this
theorem pu_l8_33 {q : Nat} (h : pu_cl q = 8) : pu_ln (pu_rf q 33) = 8 := by
  have := pu_all (p := fun q => decide (¬ pu_cl q = 8) || decide (pu_ln (pu_rf q 33) = 8)) (by decide +kernel) h (by decide)
  simpa [h] using this
theorem pu_kr8_34 : 8 < 9 ∧ 34 < px_nf 8 ∧ ¬ px_kind 8 34 < 2 := by decide +kernel
theorem pu_f8_34 {q : Nat} (h : pu_cl q = 8) : pu_cl (pu_rf q 34) = 102 := by
  have := pu_all (p := fun q => decide (¬ pu_cl q = 8) || decide (pu_cl (pu_rf q 34) = 102)) (by decide +kernel) h (by decide)
  simpa [h] using this
theorem pu_l8_34 {q : Nat} (h : pu_cl q = 8) : pu_ln (pu_rf q 34) = 960 := by
  have := pu_all (p := fun q => decide (¬ pu_cl q = 8) || decide (pu_ln (pu_rf q 34) = 960)) (by decide +kernel) h (by decide)
  simpa [h] using this
theorem pu_kr8_35 : 8 < 9 ∧ 35 < px_nf 8 ∧ ¬ px_kind 8 35 < 2 := by decide +kernel
theorem pu_f8_35 {q : Nat} (h : pu_cl q = 8) : pu_cl (pu_rf q 35) = 102 := by
  have := pu_all (p := fun q => decide (¬ pu_cl q = 8) || decide (pu_cl (pu_rf q 35) = 102)) (by decide +kernel) h (by decide)
  simpa [h] using this
theorem pu_l8_35 {q : Nat} (h : pu_cl q = 8) : pu_ln (pu_rf q 35) = 120 := by
  have := pu_all (p := fun q => decide (¬ pu_cl q = 8) || decide (pu_ln (pu_rf q 35) = 120)) (by decide +kernel) h (by decide)
  simpa [h] using this
theorem pu_kr8_36 : 8 < 9 ∧ 36 < px_nf 8 ∧ ¬ px_kind 8 36 < 2 := by decide +kernel
theorem pu_f8_36 {q : Nat} (h : pu_cl q = 8) : pu_cl (pu_rf q 36) = 100 := by
  have := pu_all (p := fun q => decide (¬ pu_cl q = 8) || decide (pu_cl (pu_rf q 36) = 100)) (by decide +kernel) h (by decide)
  simpa [h] using this
theorem pu_l8_36 {q : Nat} (h : pu_cl q = 8) : pu_ln (pu_rf q 36) = 70 := by
  have := pu_all (p := fun q => decide (¬ pu_cl q = 8) || decide (pu_ln (pu_rf q 36) = 70)) (by decide +kernel) h (by decide)
  simpa [h] using this
theorem pu_k8_37 : 8 < 9 ∧ 37 < px_nf 8 ∧ px_kind 8 37 < 2 := by decide +kernel
theorem pu_p8_37 : 8 < 9 ∧ 37 < px_nf 8 ∧ px_kind 8 37 = 0 ∧ px_fin 8 37 = false := by decide +kernel
theorem pu_k8_38 : 8 < 9 ∧ 38 < px_nf 8 ∧ px_kind 8 38 < 2 := by decide +kernel
theorem pu_p8_38 : 8 < 9 ∧ 38 < px_nf 8 ∧ px_kind 8 38 = 0 ∧ px_fin 8 38 = false := by decide +kernel
theorem pu_k8_39 : 8 < 9 ∧ 39 < px_nf 8 ∧ px_kind 8 39 < 2 := by decide +kernel
theorem pu_p8_39 : 8 < 9 ∧ 39 < px_nf 8 ∧ px_kind 8 39 = 0 ∧ px_fin 8 39 = false := by decide +kernel
theorem pu_k8_40 : 8 < 9 ∧ 40 < px_nf 8 ∧ px_kind 8 40 < 2 := by decide +kernel
theorem pu_p8_40 : 8 < 9 ∧ 40 < px_nf 8 ∧ px_kind 8 40 = 0 ∧ px_fin 8 40 = false := by decide +kernel
theorem pu_k8_41 : 8 < 9 ∧ 41 < px_nf 8 ∧ px_kind 8 41 < 2 := by decide +kernel
theorem pu_p8_41 : 8 < 9 ∧ 41 < px_nf 8 ∧ px_kind 8 41 = 0 ∧ px_fin 8 41 = false := by decide +kernel
theorem pu_kr8_42 : 8 < 9 ∧ 42 < px_nf 8 ∧ ¬ px_kind 8 42 < 2 := by decide +kernel
theorem pu_f8_42 {q : Nat} (h : pu_cl q = 8) : pu_cl (pu_rf q 42) = 100 := by
  have := pu_all (p := fun q => decide (¬ pu_cl q = 8) || decide (pu_cl (pu_rf q 42) = 100)) (by decide +kernel) h (by decide)
  simpa [h] using this
theorem pu_l8_42 {q : Nat} (h : pu_cl q = 8) : pu_ln (pu_rf q 42) = 11 := by
  have := pu_all (p := fun q => decide (¬ pu_cl q = 8) || decide (pu_ln (pu_rf q 42) = 11)) (by decide +kernel) h (by decide)
  simpa [h] using this
theorem pu_kr8_43 : 8 < 9 ∧ 43 < px_nf 8 ∧ ¬ px_kind 8 43 < 2 := by decide +kernel
theorem pu_f8_43 {q : Nat} (h : pu_cl q = 8) : pu_cl (pu_rf q 43) = 100 := by
  have := pu_all (p := fun q => decide (¬ pu_cl q = 8) || decide (pu_cl (pu_rf q 43) = 100)) (by decide +kernel) h (by decide)
  simpa [h] using this
theorem pu_l8_43 {q : Nat} (h : pu_cl q = 8) : pu_ln (pu_rf q 43) = 180 := by
  have := pu_all (p := fun q => decide (¬ pu_cl q = 8) || decide (pu_ln (pu_rf q 43) = 180)) (by decide +kernel) h (by decide)
  simpa [h] using this
theorem pu_kr8_44 : 8 < 9 ∧ 44 < px_nf 8 ∧ ¬ px_kind 8 44 < 2 := by decide +kernel
theorem pu_f8_44 {q : Nat} (h : pu_cl q = 8) : pu_cl (pu_rf q 44) = 100 := by
  have := pu_all (p := fun q => decide (¬ pu_cl q = 8) || decide (pu_cl (pu_rf q 44) = 100)) (by decide +kernel) h (by decide)
  simpa [h] using this
theorem pu_l8_44 {q : Nat} (h : pu_cl q = 8) : pu_ln (pu_rf q 44) = 120 := by
  have := pu_all (p := fun q => decide (¬ pu_cl q = 8) || decide (pu_ln (pu_rf q 44) = 120)) (by decide +kernel) h (by decide)
  simpa [h] using this
theorem pu_k8_45 : 8 < 9 ∧ 45 < px_nf 8 ∧ px_kind 8 45 < 2 := by decide +kernel
theorem pu_p8_45 : 8 < 9 ∧ 45 < px_nf 8 ∧ px_kind 8 45 = 0 ∧ px_fin 8 45 = false := by decide +kernel
theorem pu_kr8_46 : 8 < 9 ∧ 46 < px_nf 8 ∧ ¬ px_kind 8 46 < 2 := by decide +kernel
theorem pu_f8_46 {q : Nat} (h : pu_cl q = 8) : pu_cl (pu_rf q 46) = 100 := by
  have := pu_all (p := fun q => decide (¬ pu_cl q = 8) || decide (pu_cl (pu_rf q 46) = 100)) (by decide +kernel) h (by decide)
  simpa [h] using this
theorem pu_l8_46 {q : Nat} (h : pu_cl q = 8) : pu_ln (pu_rf q 46) = 1080 := by
  have := pu_all (p := fun q => decide (¬ pu_cl q = 8) || decide (pu_ln (pu_rf q 46) = 1080)) (by decide +kernel) h (by decide)
  simpa [h] using this
theorem pu_kr8_47 : 8 < 9 ∧ 47 < px_nf 8 ∧ ¬ px_kind 8 47 < 2 := by decide +kernel
theorem pu_f8_47 {q : Nat} (h : pu_cl q = 8) : pu_cl (pu_rf q 47) = 100 := by
  have := pu_all (p := fun q => decide (¬ pu_cl q = 8) || decide (pu_cl (pu_rf q 47) = 100)) (by decide +kernel) h (by decide)
  simpa [h] using this
theorem pu_l8_47 {q : Nat} (h : pu_cl q = 8) : pu_ln (pu_rf q 47) = 120 := by
  have := pu_all (p := fun q => decide (¬ pu_cl q = 8) || decide (pu_ln (pu_rf q 47) = 120)) (by decide +kernel) h (by decide)
  simpa [h] using this
theorem pu_kr8_48 : 8 < 9 ∧ 48 < px_nf 8 ∧ ¬ px_kind 8 48 < 2 := by decide +kernel
theorem pu_f8_48 {q : Nat} (h : pu_cl q = 8) : pu_cl (pu_rf q 48) = 100 := by
  have := pu_all (p := fun q => decide (¬ pu_cl q = 8) || decide (pu_cl (pu_rf q 48) = 100)) (by decide +kernel) h (by decide)
  simpa [h] using this
theorem pu_l8_48 {q : Nat} (h : pu_cl q = 8) : pu_ln (pu_rf q 48) = 20 := by
  have := pu_all (p := fun q => decide (¬ pu_cl q = 8) || decide (pu_ln (pu_rf q 48) = 20)) (by decide +kernel) h (by decide)
  simpa [h] using this
theorem pu_k8_49 : 8 < 9 ∧ 49 < px_nf 8 ∧ px_kind 8 49 < 2 := by decide +kernel
theorem pu_p8_49 : 8 < 9 ∧ 49 < px_nf 8 ∧ px_kind 8 49 = 0 ∧ px_fin 8 49 = false := by decide +kernel
theorem pu_kr8_50 : 8 < 9 ∧ 50 < px_nf 8 ∧ ¬ px_kind 8 50 < 2 := by decide +kernel
theorem pu_f8_50 {q : Nat} (h : pu_cl q = 8) : pu_cl (pu_rf q 50) = 100 := by
  have := pu_all (p := fun q => decide (¬ pu_cl q = 8) || decide (pu_cl (pu_rf q 50) = 100)) (by decide +kernel) h (by decide)
  simpa [h] using this
theorem pu_l8_50 {q : Nat} (h : pu_cl q = 8) : pu_ln (pu_rf q 50) = 11 := by
  have := pu_all (p := fun q => decide (¬ pu_cl q = 8) || decide (pu_ln (pu_rf q 50) = 11)) (by decide +kernel) h (by decide)
  simpa [h] using this
theorem pu_k8_51 : 8 < 9 ∧ 51 < px_nf 8 ∧ px_kind 8 51 < 2 := by decide +kernel
theorem pu_p8_51 : 8 < 9 ∧ 51 < px_nf 8 ∧ px_kind 8 51 = 1 ∧ px_fin 8 51 = false := by decide +kernel
theorem pu_rt0 : px_rt 0 = none := by decide +kernel
theorem pu_rt1 : px_rt 1 = none := by decide +kernel
theorem pu_n1 : px_mx 1 = 1 ∧ px_mc 1 = 0 ∧ px_ms 1 = 0 := by decide +kernel
theorem pu_g1 : pu_sg 0 1 1 1 0 := by unfold pu_sg; decide +kernel
theorem pu_rt2 : px_rt 2 = none := by decide +kernel
theorem pu_n2 : px_mx 2 = 4 ∧ px_mc 2 = 0 ∧ px_ms 2 = 0 := by decide +kernel
theorem pu_g2 : pu_sg 0 2 4 4 0 := by unfold pu_sg; decide +kernel
theorem pu_rt3 : px_rt 3 = some .int := by decide +kernel
theorem pu_n3 : px_mx 3 = 2 ∧ px_mc 3 = 0 ∧ px_ms 3 = 0 := by decide +kernel
theorem pu_g3 : pu_sg 0 3 2 2 0 := by unfold pu_sg; decide +kernel
theorem pu_rt4 : px_rt 4 = none := by decide +kernel
theorem pu_n4 : px_mx 4 = 2 ∧ px_mc 4 = 0 ∧ px_ms 4 = 0 := by decide +kernel
theorem pu_g4 : pu_sg 0 4 2 2 0 := by unfold pu_sg; decide +kernel
theorem pu_rt5 : px_rt 5 = some .int := by decide +kernel
theorem pu_n5 : px_mx 5 = 3 ∧ px_mc 5 = 0 ∧ px_ms 5 = 0 := by decide +kernel
theorem pu_g5 : pu_sg 0 5 2 3 0 := by unfold pu_sg; decide +kernel
theorem pu_rt6 : px_rt 6 = some .int := by decide +kernel
theorem pu_n6 : px_mx 6 = 4 ∧ px_mc 6 = 0 ∧ px_ms 6 = 0 := by decide +kernel
theorem pu_g6 : pu_sg 0 6 2 4 0 := by unfold pu_sg; decide +kernel
theorem pu_rt7 : px_rt 7 = some .int := by decide +kernel
theorem pu_n7 : px_mx 7 = 5 ∧ px_mc 7 = 0 ∧ px_ms 7 = 0 := by decide +kernel
theorem pu_g7 : pu_sg 0 7 2 5 0 := by unfold pu_sg; decide +kernel
theorem pu_rt8 : px_rt 8 = none := by decide +kernel
theorem pu_rt9 : px_rt 9 = none := by decide +kernel
theorem pu_n9 : px_mx 9 = 7 ∧ px_mc 9 = 0 ∧ px_ms 9 = 0 := by decide +kernel
theorem pu_g9 : pu_sg 0 9 4 7 1 := by unfold pu_sg; decide +kernel
theorem pu_rt10 : px_rt 10 = some .int := by decide +kernel
theorem pu_n10 : px_mx 10 = 6 ∧ px_mc 10 = 0 ∧ px_ms 10 = 0 := by decide +kernel
theorem pu_g10 : pu_sg 0 10 3 6 1 := by unfold pu_sg; decide +kernel
theorem pu_rt11 : px_rt 11 = some .boolean := by decide +kernel
theorem pu_n11 : px_mx 11 = 5 ∧ px_mc 11 = 0 ∧ px_ms 11 = 0 := by decide +kernel
theorem pu_g11 : pu_sg 0 11 4 5 1 := by unfold pu_sg; decide +kernel
theorem pu_rt12 : px_rt 12 = some .int := by decide +kernel
theorem pu_n12 : px_mx 12 = 4 ∧ px_mc 12 = 0 ∧ px_ms 12 = 0 := by decide +kernel
theorem pu_g12 : pu_sg 0 12 2 4 1 := by unfold pu_sg; decide +kernel
theorem pu_rt13 : px_rt 13 = some .boolean := by decide +kernel
theorem pu_n13 : px_mx 13 = 3 ∧ px_mc 13 = 0 ∧ px_ms 13 = 0 := by decide +kernel
theorem pu_g13 : pu_sg 0 13 3 3 1 := by unfold pu_sg; decide +kernel
theorem pu_rt14 : px_rt 14 = some .boolean := by decide +kernel
theorem pu_n14 : px_mx 14 = 3 ∧ px_mc 14 = 0 ∧ px_ms 14 = 0 := by decide +kernel
theorem pu_g14 : pu_sg 0 14 2 3 1 := by unfold pu_sg; decide +kernel
theorem pu_rt15 : px_rt 15 = some .boolean := by decide +kernel
theorem pu_n15 : px_mx 15 = 5 ∧ px_mc 15 = 0 ∧ px_ms 15 = 0 := by decide +kernel
theorem pu_g15 : pu_sg 0 15 2 5 1 := by unfold pu_sg; decide +kernel
theorem pu_rt16 : px_rt 16 = some .int := by decide +kernel
theorem pu_n16 : px_mx 16 = 4 ∧ px_mc 16 = 0 ∧ px_ms 16 = 0 := by decide +kernel
theorem pu_g16 : pu_sg 0 16 1 4 1 := by unfold pu_sg; decide +kernel
theorem pu_rt17 : px_rt 17 = some .int := by decide +kernel
theorem pu_n17 : px_mx 17 = 6 ∧ px_mc 17 = 0 ∧ px_ms 17 = 0 := by decide +kernel
theorem pu_g17 : pu_sg 0 17 2 6 1 := by unfold pu_sg; decide +kernel
theorem pu_rt18 : px_rt 18 = some .int := by decide +kernel
theorem pu_n18 : px_mx 18 = 5 ∧ px_mc 18 = 0 ∧ px_ms 18 = 0 := by decide +kernel
theorem pu_g18 : pu_sg 0 18 3 5 1 := by unfold pu_sg; decide +kernel
theorem pu_rt19 : px_rt 19 = none := by decide +kernel
theorem pu_rt20 : px_rt 20 = none := by decide +kernel
theorem pu_n20 : px_mx 20 = 3 ∧ px_mc 20 = 0 ∧ px_ms 20 = 0 := by decide +kernel
theorem pu_g20 : pu_sg 0 20 2 3 2 := by unfold pu_sg; decide +kernel
theorem pu_rt21 : px_rt 21 = none := by decide +kernel
theorem pu_n21 : px_mx 21 = 6 ∧ px_mc 21 = 0 ∧ px_ms 21 = 0 := by decide +kernel
theorem pu_g21 : pu_sg 0 21 5 6 2 := by unfold pu_sg; decide +kernel
theorem pu_rt22 : px_rt 22 = none := by decide +kernel
theorem pu_n22 : px_mx 22 = 4 ∧ px_mc 22 = 0 ∧ px_ms 22 = 0 := by decide +kernel
theorem pu_g22 : pu_sg 0 22 3 4 2 := by unfold pu_sg; decide +kernel
theorem pu_rt23 : px_rt 23 = some .int := by decide +kernel
theorem pu_n23 : px_mx 23 = 2 ∧ px_mc 23 = 0 ∧ px_ms 23 = 0 := by decide +kernel
theorem pu_g23 : pu_sg 0 23 2 2 2 := by unfold pu_sg; decide +kernel
theorem pu_rt24 : px_rt 24 = some .int := by decide +kernel
theorem pu_n24 : px_mx 24 = 3 ∧ px_mc 24 = 0 ∧ px_ms 24 = 0 := by decide +kernel
theorem pu_g24 : pu_sg 0 24 3 3 2 := by unfold pu_sg; decide +kernel
theorem pu_rt25 : px_rt 25 = some .int := by decide +kernel
theorem pu_n25 : px_mx 25 = 2 ∧ px_mc 25 = 0 ∧ px_ms 25 = 0 := by decide +kernel
theorem pu_g25 : pu_sg 0 25 1 2 2 := by unfold pu_sg; decide +kernel
theorem pu_rt26 : px_rt 26 = some .int := by decide +kernel
theorem pu_n26 : px_mx 26 = 3 ∧ px_mc 26 = 0 ∧ px_ms 26 = 0 := by decide +kernel
theorem pu_g26 : pu_sg 0 26 2 3 2 := by unfold pu_sg; decide +kernel
theorem pu_rt27 : px_rt 27 = some .int := by decide +kernel
theorem pu_n27 : px_mx 27 = 2 ∧ px_mc 27 = 0 ∧ px_ms 27 = 0 := by decide +kernel
theorem pu_g27 : pu_sg 0 27 1 2 2 := by unfold pu_sg; decide +kernel
theorem pu_rt28 : px_rt 28 = some .int := by decide +kernel
theorem pu_n28 : px_mx 28 = 5 ∧ px_mc 28 = 0 ∧ px_ms 28 = 0 := by decide +kernel
theorem pu_g28 : pu_sg 0 28 2 5 2 := by unfold pu_sg; decide +kernel
theorem pu_rt29 : px_rt 29 = some .int := by decide +kernel
theorem pu_n29 : px_mx 29 = 5 ∧ px_mc 29 = 0 ∧ px_ms 29 = 0 := by decide +kernel
theorem pu_g29 : pu_sg 0 29 2 5 2 := by unfold pu_sg; decide +kernel
theorem pu_rt30 : px_rt 30 = some .int := by decide +kernel
theorem pu_n30 : px_mx 30 = 4 ∧ px_mc 30 = 0 ∧ px_ms 30 = 0 := by decide +kernel
theorem pu_g30 : pu_sg 0 30 1 4 2 := by unfold pu_sg; decide +kernel
theorem pu_rt31 : px_rt 31 = none := by decide +kernel
theorem pu_rt32 : px_rt 32 = some .boolean := by decide +kernel
theorem pu_n32 : px_mx 32 = 1 ∧ px_mc 32 = 0 ∧ px_ms 32 = 0 := by decide +kernel
theorem pu_g32 : pu_sg 0 32 1 1 3 := by unfold pu_sg; decide +kernel
theorem pu_rt33 : px_rt 33 = some .boolean := by decide +kernel
theorem pu_n33 : px_mx 33 = 1 ∧ px_mc 33 = 0 ∧ px_ms 33 = 0 := by decide +kernel
theorem pu_g33 : pu_sg 0 33 1 1 3 := by unfold pu_sg; decide +kernel
theorem pu_rt34 : px_rt 34 = none := by decide +kernel
theorem pu_n34 : px_mx 34 = 1 ∧ px_mc 34 = 0 ∧ px_ms 34 = 0 := by decide +kernel
theorem pu_g34 : pu_sg 0 34 1 1 3 := by unfold pu_sg; decide +kernel
theorem pu_rt35 : px_rt 35 = none := by decide +kernel
theorem pu_n35 : px_mx 35 = 3 ∧ px_mc 35 = 0 ∧ px_ms 35 = 0 := by decide +kernel
theorem pu_g35 : pu_sg 0 35 3 3 3 := by unfold pu_sg; decide +kernel
theorem pu_rt36 : px_rt 36 = none := by decide +kernel
theorem pu_n36 : px_mx 36 = 5 ∧ px_mc 36 = 0 ∧ px_ms 36 = 0 := by decide +kernel
theorem pu_g36 : pu_sg 0 36 4 5 3 := by unfold pu_sg; decide +kernel
theorem pu_rt37 : px_rt 37 = some .boolean := by decide +kernel
theorem pu_n37 : px_mx 37 = 2 ∧ px_mc 37 = 0 ∧ px_ms 37 = 0 := by decide +kernel
theorem pu_g37 : pu_sg 0 37 2 2 3 := by unfold pu_sg; decide +kernel
theorem pu_rt38 : px_rt 38 = some .boolean := by decide +kernel
theorem pu_n38 : px_mx 38 = 3 ∧ px_mc 38 = 0 ∧ px_ms 38 = 0 := by decide +kernel
theorem pu_g38 : pu_sg 0 38 3 3 3 := by unfold pu_sg; decide +kernel
theorem pu_rt39 : px_rt 39 = some .long := by decide +kernel
theorem pu_n39 : px_mx 39 = 2 ∧ px_mc 39 = 0 ∧ px_ms 39 = 0 := by decide +kernel
theorem pu_g39 : pu_sg 0 39 2 2 3 := by unfold pu_sg; decide +kernel
theorem pu_rt40 : px_rt 40 = some .int := by decide +kernel
theorem pu_n40 : px_mx 40 = 2 ∧ px_mc 40 = 0 ∧ px_ms 40 = 0 := by decide +kernel
theorem pu_g40 : pu_sg 0 40 2 2 3 := by unfold pu_sg; decide +kernel
theorem pu_rt41 : px_rt 41 = none := by decide +kernel
theorem pu_n41 : px_mx 41 = 4 ∧ px_mc 41 = 0 ∧ px_ms 41 = 0 := by decide +kernel
theorem pu_g41 : pu_sg 0 41 3 4 3 := by unfold pu_sg; decide +kernel
theorem pu_rt42 : px_rt 42 = some .long := by decide +kernel
theorem pu_n42 : px_mx 42 = 3 ∧ px_mc 42 = 0 ∧ px_ms 42 = 0 := by decide +kernel
theorem pu_g42 : pu_sg 0 42 2 3 3 := by unfold pu_sg; decide +kernel
theorem pu_rt43 : px_rt 43 = some .boolean := by decide +kernel
theorem pu_n43 : px_mx 43 = 2 ∧ px_mc 43 = 0 ∧ px_ms 43 = 0 := by decide +kernel
theorem pu_g43 : pu_sg 0 43 2 2 3 := by unfold pu_sg; decide +kernel
theorem pu_rt44 : px_rt 44 = some .boolean := by decide +kernel
theorem pu_n44 : px_mx 44 = 2 ∧ px_mc 44 = 0 ∧ px_ms 44 = 0 := by decide +kernel
theorem pu_g44 : pu_sg 0 44 2 2 3 := by unfold pu_sg; decide +kernel
theorem pu_rt45 : px_rt 45 = none := by decide +kernel
theorem pu_rt46 : px_rt 46 = none := by decide +kernel
theorem pu_n46 : px_mx 46 = 2 ∧ px_mc 46 = 0 ∧ px_ms 46 = 0 := by decide +kernel
theorem pu_g46 : pu_sg 0 46 2 2 4 := by unfold pu_sg; decide +kernel
theorem pu_rt47 : px_rt 47 = some .boolean := by decide +kernel
theorem pu_n47 : px_mx 47 = 2 ∧ px_mc 47 = 0 ∧ px_ms 47 = 0 := by decide +kernel
theorem pu_g47 : pu_sg 0 47 2 2 4 := by unfold pu_sg; decide +kernel
theorem pu_rt48 : px_rt 48 = none := by decide +kernel
theorem pu_n48 : px_mx 48 = 3 ∧ px_mc 48 = 0 ∧ px_ms 48 = 0 := by decide +kernel
theorem pu_g48 : pu_sg 0 48 3 3 4 := by unfold pu_sg; decide +kernel
theorem pu_n49 : px_mx 49 = 2 ∧ px_mc 49 = 0 ∧ px_ms 49 = 0 := by decide +kernel
theorem pu_g49 : pu_sg 0 49 2 2 4 := by unfold pu_sg; decide +kernel
theorem pu_rt50 : px_rt 50 = some .boolean := by decide +kernel
theorem pu_n50 : px_mx 50 = 3 ∧ px_mc 50 = 0 ∧ px_ms 50 = 0 := by decide +kernel
theorem pu_g50 : pu_sg 0 50 2 3 4 := by unfold pu_sg; decide +kernel
theorem pu_rt51 : px_rt 51 = some .boolean := by decide +kernel
theorem pu_n51 : px_mx 51 = 2 ∧ px_mc 51 = 0 ∧ px_ms 51 = 0 := by decide +kernel
theorem pu_g51 : pu_sg 0 51 2 2 4 := by unfold pu_sg; decide +kernel
theorem pu_rt52 : px_rt 52 = some .boolean := by decide +kernel
theorem pu_n52 : px_mx 52 = 2 ∧ px_mc 52 = 0 ∧ px_ms 52 = 0 := by decide +kernel
theorem pu_g52 : pu_sg 0 52 2 2 4 := by unfold pu_sg; decide +kernel
theorem pu_rt53 : px_rt 53 = some .boolean := by decide +kernel
theorem pu_n53 : px_mx 53 = 2 ∧ px_mc 53 = 0 ∧ px_ms 53 = 0 := by decide +kernel
theorem pu_g53 : pu_sg 0 53 2 2 4 := by unfold pu_sg; decide +kernel
theorem pu_rt54 : px_rt 54 = none := by decide +kernel
theorem pu_n54 : px_mx 54 = 3 ∧ px_mc 54 = 0 ∧ px_ms 54 = 0 := by decide +kernel
theorem pu_g54 : pu_sg 0 54 3 3 4 := by unfold pu_sg; decide +kernel
theorem pu_rt55 : px_rt 55 = some .int := by decide +kernel
theorem pu_n55 : px_mx 55 = 3 ∧ px_mc 55 = 0 ∧ px_ms 55 = 0 := by decide +kernel
theorem pu_g55 : pu_sg 0 55 1 3 4 := by unfold pu_sg; decide +kernel
theorem pu_rt56 : px_rt 56 = some .int := by decide +kernel
theorem pu_n56 : px_mx 56 = 3 ∧ px_mc 56 = 0 ∧ px_ms 56 = 0 := by decide +kernel
theorem pu_g56 : pu_sg 0 56 1 3 4 := by unfold pu_sg; decide +kernel
theorem pu_rt57 : px_rt 57 = some .int := by decide +kernel
theorem pu_n57 : px_mx 57 = 3 ∧ px_mc 57 = 0 ∧ px_ms 57 = 0 := by decide +kernel
theorem pu_g57 : pu_sg 0 57 2 3 4 := by unfold pu_sg; decide +kernel
theorem pu_rt58 : px_rt 58 = some .int := by decide +kernel
theorem pu_n58 : px_mx 58 = 4 ∧ px_mc 58 = 0 ∧ px_ms 58 = 0 := by decide +kernel
theorem pu_g58 : pu_sg 0 58 2 4 4 := by unfold pu_sg; decide +kernel
theorem pu_rt59 : px_rt 59 = some .int := by decide +kernel
theorem pu_n59 : px_mx 59 = 8 ∧ px_mc 59 = 0 ∧ px_ms 59 = 0 := by decide +kernel
theorem pu_g59 : pu_sg 0 59 3 8 4 := by unfold pu_sg; decide +kernel
theorem pu_rt60 : px_rt 60 = some .int := by decide +kernel
theorem pu_n60 : px_mx 60 = 5 ∧ px_mc 60 = 0 ∧ px_ms 60 = 0 := by decide +kernel
theorem pu_g60 : pu_sg 0 60 3 5 4 := by unfold pu_sg; decide +kernel
theorem pu_rt61 : px_rt 61 = some .int := by decide +kernel
theorem pu_n61 : px_mx 61 = 11 ∧ px_mc 61 = 0 ∧ px_ms 61 = 0 := by decide +kernel
theorem pu_g61 : pu_sg 0 61 5 11 4 := by unfold pu_sg; decide +kernel
theorem pu_rt62 : px_rt 62 = some .int := by decide +kernel
theorem pu_n62 : px_mx 62 = 10 ∧ px_mc 62 = 0 ∧ px_ms 62 = 0 := by decide +kernel
theorem pu_g62 : pu_sg 0 62 4 10 4 := by unfold pu_sg; decide +kernel
theorem pu_rt63 : px_rt 63 = some .int := by decide +kernel
theorem pu_n63 : px_mx 63 = 6 ∧ px_mc 63 = 0 ∧ px_ms 63 = 0 := by decide +kernel
theorem pu_g63 : pu_sg 0 63 5 6 4 := by unfold pu_sg; decide +kernel
theorem pu_rt64 : px_rt 64 = some .int := by decide +kernel
theorem pu_n64 : px_mx 64 = 7 ∧ px_mc 64 = 0 ∧ px_ms 64 = 0 := by decide +kernel
theorem pu_g64 : pu_sg 0 64 5 7 4 := by unfold pu_sg; decide +kernel
theorem pu_rt65 : px_rt 65 = some .int := by decide +kernel
theorem pu_n65 : px_mx 65 = 8 ∧ px_mc 65 = 0 ∧ px_ms 65 = 0 := by decide +kernel
theorem pu_g65 : pu_sg 0 65 5 8 4 := by unfold pu_sg; decide +kernel
theorem pu_rt66 : px_rt 66 = some .int := by decide +kernel
theorem pu_n66 : px_mx 66 = 9 ∧ px_mc 66 = 0 ∧ px_ms 66 = 0 := by decide +kernel
theorem pu_g66 : pu_sg 0 66 5 9 4 := by unfold pu_sg; decide +kernel
theorem pu_rt67 : px_rt 67 = some .int := by decide +kernel
theorem pu_n67 : px_mx 67 = 6 ∧ px_mc 67 = 0 ∧ px_ms 67 = 0 := by decide +kernel
theorem pu_g67 : pu_sg 0 67 4 6 4 := by unfold pu_sg; decide +kernel
theorem pu_rt68 : px_rt 68 = some .int := by decide +kernel
theorem pu_n68 : px_mx 68 = 5 ∧ px_mc 68 = 0 ∧ px_ms 68 = 0 := by decide +kernel
theorem pu_g68 : pu_sg 0 68 3 5 4 := by unfold pu_sg; decide +kernel
theorem pu_rt69 : px_rt 69 = some .int := by decide +kernel
theorem pu_n69 : px_mx 69 = 5 ∧ px_mc 69 = 0 ∧ px_ms 69 = 0 := by decide +kernel
theorem pu_g69 : pu_sg 0 69 3 5 4 := by unfold pu_sg; decide +kernel
theorem pu_rt70 : px_rt 70 = some .int := by decide +kernel
theorem pu_n70 : px_mx 70 = 7 ∧ px_mc 70 = 0 ∧ px_ms 70 = 0 := by decide +kernel
theorem pu_g70 : pu_sg 0 70 2 7 4 := by unfold pu_sg; decide +kernel
theorem pu_rt71 : px_rt 71 = some .int := by decide +kernel
theorem pu_n71 : px_mx 71 = 6 ∧ px_mc 71 = 0 ∧ px_ms 71 = 0 := by decide +kernel
theorem pu_g71 : pu_sg 0 71 2 6 4 := by unfold pu_sg; decide +kernel
theorem pu_rt72 : px_rt 72 = none := by decide +kernel
theorem pu_rt73 : px_rt 73 = some .int := by decide +kernel
theorem pu_n73 : px_mx 73 = 5 ∧ px_mc 73 = 0 ∧ px_ms 73 = 0 := by decide +kernel
theorem pu_g73 : pu_sg 0 73 3 5 5 := by unfold pu_sg; decide +kernel
theorem pu_rt74 : px_rt 74 = some .int := by decide +kernel
theorem pu_n74 : px_mx 74 = 6 ∧ px_mc 74 = 0 ∧ px_ms 74 = 0 := by decide +kernel
theorem pu_g74 : pu_sg 0 74 3 6 5 := by unfold pu_sg; decide +kernel
theorem pu_rt75 : px_rt 75 = some .int := by decide +kernel
theorem pu_n75 : px_mx 75 = 6 ∧ px_mc 75 = 0 ∧ px_ms 75 = 0 := by decide +kernel
theorem pu_g75 : pu_sg 0 75 2 6 5 := by unfold pu_sg; decide +kernel
theorem pu_rt76 : px_rt 76 = some .int := by decide +kernel
theorem pu_n76 : px_mx 76 = 4 ∧ px_mc 76 = 0 ∧ px_ms 76 = 0 := by decide +kernel
theorem pu_g76 : pu_sg 1 76 3 4 5 := by unfold pu_sg; decide +kernel
theorem pu_rt77 : px_rt 77 = some .boolean := by decide +kernel
theorem pu_n77 : px_mx 77 = 6 ∧ px_mc 77 = 0 ∧ px_ms 77 = 0 := by decide +kernel
theorem pu_g77 : pu_sg 0 77 4 6 5 := by unfold pu_sg; decide +kernel
theorem pu_rt78 : px_rt 78 = some .boolean := by decide +kernel
theorem pu_n78 : px_mx 78 = 1 ∧ px_mc 78 = 0 ∧ px_ms 78 = 0 := by decide +kernel
theorem pu_g78 : pu_sg 1 78 1 1 5 := by unfold pu_sg; decide +kernel
theorem pu_rt79 : px_rt 79 = none := by decide +kernel
theorem pu_rt80 : px_rt 80 = some .boolean := by decide +kernel
theorem pu_n80 : px_mx 80 = 1 ∧ px_mc 80 = 0 ∧ px_ms 80 = 0 := by decide +kernel
theorem pu_g80 : pu_sg 0 80 1 1 6 := by unfold pu_sg; decide +kernel
theorem pu_rt81 : px_rt 81 = some .boolean := by decide +kernel
theorem pu_n81 : px_mx 81 = 2 ∧ px_mc 81 = 0 ∧ px_ms 81 = 0 := by decide +kernel
theorem pu_g81 : pu_sg 0 81 2 2 6 := by unfold pu_sg; decide +kernel
theorem pu_rt82 : px_rt 82 = some .int := by decide +kernel
theorem pu_n82 : px_mx 82 = 4 ∧ px_mc 82 = 0 ∧ px_ms 82 = 0 := by decide +kernel
theorem pu_g82 : pu_sg 0 82 3 4 6 := by unfold pu_sg; decide +kernel
theorem pu_rt83 : px_rt 83 = none := by decide +kernel
theorem pu_n83 : px_mx 83 = 4 ∧ px_mc 83 = 0 ∧ px_ms 83 = 0 := by decide +kernel
theorem pu_g83 : pu_sg 0 83 4 4 6 := by unfold pu_sg; decide +kernel
theorem pu_rt84 : px_rt 84 = some .int := by decide +kernel
theorem pu_n84 : px_mx 84 = 6 ∧ px_mc 84 = 0 ∧ px_ms 84 = 0 := by decide +kernel
theorem pu_g84 : pu_sg 0 84 5 6 6 := by unfold pu_sg; decide +kernel
theorem pu_rt85 : px_rt 85 = none := by decide +kernel
theorem pu_n85 : px_mx 85 = 3 ∧ px_mc 85 = 0 ∧ px_ms 85 = 0 := by decide +kernel
theorem pu_g85 : pu_sg 0 85 2 3 6 := by unfold pu_sg; decide +kernel
theorem pu_rt86 : px_rt 86 = none := by decide +kernel
theorem pu_rt87 : px_rt 87 = some .int := by decide +kernel
theorem pu_n87 : px_mx 87 = 4 ∧ px_mc 87 = 0 ∧ px_ms 87 = 0 := by decide +kernel
theorem pu_g87 : pu_sg 0 87 4 4 7 := by unfold pu_sg; decide +kernel
theorem pu_rt88 : px_rt 88 = some .int := by decide +kernel
theorem pu_n88 : px_mx 88 = 6 ∧ px_mc 88 = 0 ∧ px_ms 88 = 0 := by decide +kernel
theorem pu_g88 : pu_sg 0 88 4 6 7 := by unfold pu_sg; decide +kernel
theorem pu_rt89 : px_rt 89 = some .int := by decide +kernel
theorem pu_n89 : px_mx 89 = 8 ∧ px_mc 89 = 0 ∧ px_ms 89 = 0 := by decide +kernel
theorem pu_g89 : pu_sg 0 89 6 8 7 := by unfold pu_sg; decide +kernel
theorem pu_rt90 : px_rt 90 = some .long := by decide +kernel
theorem pu_n90 : px_mx 90 = 3 ∧ px_mc 90 = 0 ∧ px_ms 90 = 0 := by decide +kernel
theorem pu_g90 : pu_sg 0 90 3 3 7 := by unfold pu_sg; decide +kernel
theorem pu_rt91 : px_rt 91 = some .int := by decide +kernel
theorem pu_n91 : px_mx 91 = 4 ∧ px_mc 91 = 0 ∧ px_ms 91 = 0 := by decide +kernel
theorem pu_g91 : pu_sg 0 91 4 4 7 := by unfold pu_sg; decide +kernel
theorem pu_rt92 : px_rt 92 = some .int := by decide +kernel
theorem pu_n92 : px_mx 92 = 2 ∧ px_mc 92 = 0 ∧ px_ms 92 = 0 := by decide +kernel
theorem pu_g92 : pu_sg 0 92 2 2 7 := by unfold pu_sg; decide +kernel
theorem pu_rt93 : px_rt 93 = some .int := by decide +kernel
theorem pu_n93 : px_mx 93 = 5 ∧ px_mc 93 = 0 ∧ px_ms 93 = 0 := by decide +kernel
theorem pu_g93 : pu_sg 0 93 3 5 7 := by unfold pu_sg; decide +kernel
theorem pu_rt94 : px_rt 94 = some .int := by decide +kernel
theorem pu_n94 : px_mx 94 = 5 ∧ px_mc 94 = 0 ∧ px_ms 94 = 0 := by decide +kernel
theorem pu_g94 : pu_sg 0 94 5 5 7 := by unfold pu_sg; decide +kernel
theorem pu_rt95 : px_rt 95 = some .int := by decide +kernel
theorem pu_n95 : px_mx 95 = 3 ∧ px_mc 95 = 0 ∧ px_ms 95 = 0 := by decide +kernel
theorem pu_g95 : pu_sg 0 95 3 3 7 := by unfold pu_sg; decide +kernel
theorem pu_rt96 : px_rt 96 = some .int := by decide +kernel
theorem pu_n96 : px_mx 96 = 4 ∧ px_mc 96 = 0 ∧ px_ms 96 = 0 := by decide +kernel
theorem pu_g96 : pu_sg 0 96 3 4 7 := by unfold pu_sg; decide +kernel
theorem pu_rt97 : px_rt 97 = some .int := by decide +kernel
theorem pu_n97 : px_mx 97 = 3 ∧ px_mc 97 = 0 ∧ px_ms 97 = 0 := by decide +kernel
theorem pu_g97 : pu_sg 0 97 3 3 7 := by unfold pu_sg; decide +kernel
theorem pu_rt98 : px_rt 98 = some .int := by decide +kernel
theorem pu_n98 : px_mx 98 = 4 ∧ px_mc 98 = 0 ∧ px_ms 98 = 0 := by decide +kernel
theorem pu_g98 : pu_sg 0 98 4 4 7 := by unfold pu_sg; decide +kernel
theorem pu_rt99 : px_rt 99 = some .int := by decide +kernel
theorem pu_n99 : px_mx 99 = 4 ∧ px_mc 99 = 0 ∧ px_ms 99 = 0 := by decide +kernel
theorem pu_g99 : pu_sg 0 99 3 4 7 := by unfold pu_sg; decide +kernel
theorem pu_rt100 : px_rt 100 = some .int := by decide +kernel
theorem pu_n100 : px_mx 100 = 3 ∧ px_mc 100 = 0 ∧ px_ms 100 = 0 := by decide +kernel
theorem pu_g100 : pu_sg 0 100 2 3 7 := by unfold pu_sg; decide +kernel
theorem pu_rt101 : px_rt 101 = some .int := by decide +kernel
theorem pu_n101 : px_mx 101 = 1 ∧ px_mc 101 = 0 ∧ px_ms 101 = 0 := by decide +kernel
theorem pu_g101 : pu_sg 0 101 1 1 7 := by unfold pu_sg; decide +kernel
theorem pu_rt102 : px_rt 102 = some .int := by decide +kernel
theorem pu_n102 : px_mx 102 = 3 ∧ px_mc 102 = 0 ∧ px_ms 102 = 0 := by decide +kernel
theorem pu_g102 : pu_sg 0 102 3 3 7 := by unfold pu_sg; decide +kernel
theorem pu_rt103 : px_rt 103 = some .int := by decide +kernel
theorem pu_n103 : px_mx 103 = 3 ∧ px_mc 103 = 0 ∧ px_ms 103 = 0 := by decide +kernel
theorem pu_g103 : pu_sg 0 103 3 3 7 := by unfold pu_sg; decide +kernel
theorem pu_rt104 : px_rt 104 = some .int := by decide +kernel
theorem pu_n104 : px_mx 104 = 5 ∧ px_mc 104 = 0 ∧ px_ms 104 = 0 := by decide +kernel
theorem pu_g104 : pu_sg 0 104 3 5 7 := by unfold pu_sg; decide +kernel
theorem pu_rt105 : px_rt 105 = some .int := by decide +kernel
theorem pu_n105 : px_mx 105 = 4 ∧ px_mc 105 = 0 ∧ px_ms 105 = 0 := by decide +kernel
theorem pu_g105 : pu_sg 0 105 3 4 7 := by unfold pu_sg; decide +kernel
theorem pu_rt106 : px_rt 106 = some .int := by decide +kernel
theorem pu_n106 : px_mx 106 = 6 ∧ px_mc 106 = 0 ∧ px_ms 106 = 0 := by decide +kernel
theorem pu_g106 : pu_sg 0 106 5 6 7 := by unfold pu_sg; decide +kernel
theorem pu_rt107 : px_rt 107 = some .int := by decide +kernel
theorem pu_n107 : px_mx 107 = 7 ∧ px_mc 107 = 0 ∧ px_ms 107 = 0 := by decide +kernel
theorem pu_g107 : pu_sg 0 107 5 7 7 := by unfold pu_sg; decide +kernel
theorem pu_rt108 : px_rt 108 = some .int := by decide +kernel
theorem pu_n108 : px_mx 108 = 5 ∧ px_mc 108 = 0 ∧ px_ms 108 = 0 := by decide +kernel
theorem pu_g108 : pu_sg 0 108 4 5 7 := by unfold pu_sg; decide +kernel
theorem pu_rt109 : px_rt 109 = some .int := by decide +kernel
theorem pu_n109 : px_mx 109 = 6 ∧ px_mc 109 = 0 ∧ px_ms 109 = 0 := by decide +kernel
theorem pu_g109 : pu_sg 0 109 4 6 7 := by unfold pu_sg; decide +kernel
theorem pu_rt110 : px_rt 110 = some .int := by decide +kernel
theorem pu_n110 : px_mx 110 = 3 ∧ px_mc 110 = 0 ∧ px_ms 110 = 0 := by decide +kernel
theorem pu_g110 : pu_sg 0 110 3 3 7 := by unfold pu_sg; decide +kernel
theorem pu_rt111 : px_rt 111 = some .int := by decide +kernel
theorem pu_n111 : px_mx 111 = 3 ∧ px_mc 111 = 0 ∧ px_ms 111 = 0 := by decide +kernel
theorem pu_g111 : pu_sg 0 111 3 3 7 := by unfold pu_sg; decide +kernel
theorem pu_rt112 : px_rt 112 = some .int := by decide +kernel
theorem pu_n112 : px_mx 112 = 3 ∧ px_mc 112 = 0 ∧ px_ms 112 = 0 := by decide +kernel
theorem pu_g112 : pu_sg 0 112 3 3 7 := by unfold pu_sg; decide +kernel
theorem pu_rt113 : px_rt 113 = some .int := by decide +kernel
theorem pu_n113 : px_mx 113 = 3 ∧ px_mc 113 = 0 ∧ px_ms 113 = 0 := by decide +kernel
theorem pu_g113 : pu_sg 0 113 3 3 7 := by unfold pu_sg; decide +kernel
theorem pu_rt114 : px_rt 114 = some .int := by decide +kernel
theorem pu_n114 : px_mx 114 = 3 ∧ px_mc 114 = 0 ∧ px_ms 114 = 0 := by decide +kernel
theorem pu_g114 : pu_sg 0 114 3 3 7 := by unfold pu_sg; decide +kernel
theorem pu_rt115 : px_rt 115 = some .int := by decide +kernel
theorem pu_n115 : px_mx 115 = 7 ∧ px_mc 115 = 0 ∧ px_ms 115 = 0 := by decide +kernel
theorem pu_g115 : pu_sg 0 115 2 7 7 := by unfold pu_sg; decide +kernel
theorem pu_rt116 : px_rt 116 = some .int := by decide +kernel
theorem pu_n116 : px_mx 116 = 4 ∧ px_mc 116 = 0 ∧ px_ms 116 = 0 := by decide +kernel
theorem pu_g116 : pu_sg 0 116 2 4 7 := by unfold pu_sg; decide +kernel
theorem pu_rt117 : px_rt 117 = some .int := by decide +kernel
theorem pu_n117 : px_mx 117 = 5 ∧ px_mc 117 = 0 ∧ px_ms 117 = 0 := by decide +kernel
theorem pu_g117 : pu_sg 0 117 1 5 7 := by unfold pu_sg; decide +kernel
theorem pu_rt118 : px_rt 118 = some .int := by decide +kernel
theorem pu_n118 : px_mx 118 = 6 ∧ px_mc 118 = 0 ∧ px_ms 118 = 0 := by decide +kernel
theorem pu_g118 : pu_sg 0 118 4 6 7 := by unfold pu_sg; decide +kernel
theorem pu_rt119 : px_rt 119 = some .int := by decide +kernel
theorem pu_n119 : px_mx 119 = 9 ∧ px_mc 119 = 0 ∧ px_ms 119 = 0 := by decide +kernel
theorem pu_g119 : pu_sg 0 119 3 9 7 := by unfold pu_sg; decide +kernel
theorem pu_rt120 : px_rt 120 = some .int := by decide +kernel
theorem pu_n120 : px_mx 120 = 4 ∧ px_mc 120 = 0 ∧ px_ms 120 = 0 := by decide +kernel
theorem pu_g120 : pu_sg 0 120 2 4 7 := by unfold pu_sg; decide +kernel
theorem pu_rt121 : px_rt 121 = some .int := by decide +kernel
theorem pu_n121 : px_mx 121 = 3 ∧ px_mc 121 = 0 ∧ px_ms 121 = 0 := by decide +kernel
theorem pu_g121 : pu_sg 0 121 3 3 7 := by unfold pu_sg; decide +kernel
theorem pu_rt122 : px_rt 122 = some .int := by decide +kernel
theorem pu_n122 : px_mx 122 = 6 ∧ px_mc 122 = 0 ∧ px_ms 122 = 0 := by decide +kernel
theorem pu_g122 : pu_sg 0 122 3 6 7 := by unfold pu_sg; decide +kernel
theorem pu_rt123 : px_rt 123 = some .int := by decide +kernel
theorem pu_n123 : px_mx 123 = 4 ∧ px_mc 123 = 0 ∧ px_ms 123 = 0 := by decide +kernel
theorem pu_g123 : pu_sg 0 123 3 4 7 := by unfold pu_sg; decide +kernel
theorem pu_rt124 : px_rt 124 = some .int := by decide +kernel
theorem pu_n124 : px_mx 124 = 7 ∧ px_mc 124 = 0 ∧ px_ms 124 = 0 := by decide +kernel
theorem pu_g124 : pu_sg 0 124 4 7 7 := by unfold pu_sg; decide +kernel
theorem pu_rt125 : px_rt 125 = some .int := by decide +kernel
theorem pu_n125 : px_mx 125 = 4 ∧ px_mc 125 = 0 ∧ px_ms 125 = 0 := by decide +kernel
theorem pu_g125 : pu_sg 0 125 4 4 7 := by unfold pu_sg; decide +kernel
theorem pu_rt126 : px_rt 126 = some .int := by decide +kernel
theorem pu_n126 : px_mx 126 = 2 ∧ px_mc 126 = 0 ∧ px_ms 126 = 0 := by decide +kernel
theorem pu_g126 : pu_sg 0 126 2 2 7 := by unfold pu_sg; decide +kernel
theorem pu_rt127 : px_rt 127 = some .int := by decide +kernel
theorem pu_n127 : px_mx 127 = 1 ∧ px_mc 127 = 0 ∧ px_ms 127 = 0 := by decide +kernel
theorem pu_g127 : pu_sg 0 127 1 1 7 := by unfold pu_sg; decide +kernel
theorem pu_rt128 : px_rt 128 = some .int := by decide +kernel
theorem pu_n128 : px_mx 128 = 1 ∧ px_mc 128 = 0 ∧ px_ms 128 = 0 := by decide +kernel
theorem pu_g128 : pu_sg 0 128 1 1 7 := by unfold pu_sg; decide +kernel
theorem pu_rt129 : px_rt 129 = some .int := by decide +kernel
theorem pu_n129 : px_mx 129 = 2 ∧ px_mc 129 = 0 ∧ px_ms 129 = 0 := by decide +kernel
theorem pu_g129 : pu_sg 0 129 2 2 7 := by unfold pu_sg; decide +kernel
theorem pu_rt130 : px_rt 130 = some .int := by decide +kernel
theorem pu_n130 : px_mx 130 = 2 ∧ px_mc 130 = 0 ∧ px_ms 130 = 0 := by decide +kernel
theorem pu_g130 : pu_sg 0 130 2 2 7 := by unfold pu_sg; decide +kernel
theorem pu_rt131 : px_rt 131 = some .int := by decide +kernel
theorem pu_n131 : px_mx 131 = 2 ∧ px_mc 131 = 0 ∧ px_ms 131 = 0 := by decide +kernel
theorem pu_g131 : pu_sg 0 131 2 2 7 := by unfold pu_sg; decide +kernel
theorem pu_rt132 : px_rt 132 = some .int := by decide +kernel
theorem pu_n132 : px_mx 132 = 2 ∧ px_mc 132 = 0 ∧ px_ms 132 = 0 := by decide +kernel
theorem pu_g132 : pu_sg 0 132 2 2 7 := by unfold pu_sg; decide +kernel
theorem pu_rt133 : px_rt 133 = some .int := by decide +kernel
theorem pu_n133 : px_mx 133 = 2 ∧ px_mc 133 = 0 ∧ px_ms 133 = 0 := by decide +kernel
theorem pu_g133 : pu_sg 0 133 2 2 7 := by unfold pu_sg; decide +kernel
theorem pu_rt134 : px_rt 134 = some .int := by decide +kernel
theorem pu_n134 : px_mx 134 = 5 ∧ px_mc 134 = 0 ∧ px_ms 134 = 0 := by decide +kernel
theorem pu_g134 : pu_sg 0 134 4 5 7 := by unfold pu_sg; decide +kernel
theorem pu_rt135 : px_rt 135 = some .int := by decide +kernel
theorem pu_n135 : px_mx 135 = 5 ∧ px_mc 135 = 0 ∧ px_ms 135 = 0 := by decide +kernel
theorem pu_g135 : pu_sg 0 135 4 5 7 := by unfold pu_sg; decide +kernel
theorem pu_rt136 : px_rt 136 = some .int := by decide +kernel
theorem pu_n136 : px_mx 136 = 6 ∧ px_mc 136 = 0 ∧ px_ms 136 = 0 := by decide +kernel
theorem pu_g136 : pu_sg 0 136 5 6 7 := by unfold pu_sg; decide +kernel
theorem pu_rt137 : px_rt 137 = some .int := by decide +kernel
theorem pu_n137 : px_mx 137 = 4 ∧ px_mc 137 = 0 ∧ px_ms 137 = 0 := by decide +kernel
theorem pu_g137 : pu_sg 0 137 4 4 7 := by unfold pu_sg; decide +kernel
theorem pu_rt138 : px_rt 138 = some .boolean := by decide +kernel
theorem pu_n138 : px_mx 138 = 1 ∧ px_mc 138 = 0 ∧ px_ms 138 = 0 := by decide +kernel
theorem pu_g138 : pu_sg 1 138 1 1 7 := by unfold pu_sg; decide +kernel
theorem pu_rt139 : px_rt 139 = some .boolean := by decide +kernel
theorem pu_n139 : px_mx 139 = 1 ∧ px_mc 139 = 0 ∧ px_ms 139 = 0 := by decide +kernel
theorem pu_g139 : pu_sg 1 139 1 1 7 := by unfold pu_sg; decide +kernel
theorem pu_rt140 : px_rt 140 = some .boolean := by decide +kernel
theorem pu_n140 : px_mx 140 = 1 ∧ px_mc 140 = 0 ∧ px_ms 140 = 0 := by decide +kernel
theorem pu_g140 : pu_sg 1 140 1 1 7 := by unfold pu_sg; decide +kernel
theorem pu_rt141 : px_rt 141 = some .boolean := by decide +kernel
theorem pu_n141 : px_mx 141 = 1 ∧ px_mc 141 = 0 ∧ px_ms 141 = 0 := by decide +kernel
theorem pu_g141 : pu_sg 1 141 1 1 7 := by unfold pu_sg; decide +kernel
theorem pu_rt142 : px_rt 142 = some .boolean := by decide +kernel
theorem pu_n142 : px_mx 142 = 2 ∧ px_mc 142 = 0 ∧ px_ms 142 = 0 := by decide +kernel
theorem pu_g142 : pu_sg 1 142 2 2 7 := by unfold pu_sg; decide +kernel
theorem pu_rt143 : px_rt 143 = some .int := by decide +kernel
theorem pu_n143 : px_mx 143 = 1 ∧ px_mc 143 = 0 ∧ px_ms 143 = 0 := by decide +kernel
theorem pu_g143 : pu_sg 1 143 1 1 7 := by unfold pu_sg; decide +kernel
theorem pu_rt144 : px_rt 144 = some .int := by decide +kernel
theorem pu_n144 : px_mx 144 = 1 ∧ px_mc 144 = 0 ∧ px_ms 144 = 0 := by decide +kernel
theorem pu_g144 : pu_sg 1 144 1 1 7 := by unfold pu_sg; decide +kernel
theorem pu_rt145 : px_rt 145 = some .boolean := by decide +kernel
theorem pu_n145 : px_mx 145 = 4 ∧ px_mc 145 = 0 ∧ px_ms 145 = 0 := by decide +kernel
theorem pu_g145 : pu_sg 1 145 3 4 7 := by unfold pu_sg; decide +kernel
theorem pu_rt146 : px_rt 146 = some .boolean := by decide +kernel
theorem pu_n146 : px_mx 146 = 2 ∧ px_mc 146 = 0 ∧ px_ms 146 = 0 := by decide +kernel
theorem pu_g146 : pu_sg 1 146 2 2 7 := by unfold pu_sg; decide +kernel
theorem pu_n147 : px_mx 147 = 1 ∧ px_mc 147 = 0 ∧ px_ms 147 = 0 := by decide +kernel
theorem pu_g147 : pu_sg 1 147 1 1 7 := by unfold pu_sg; decide +kernel
theorem pu_rt148 : px_rt 148 = none := by decide +kernel
theorem pu_rt149 : px_rt 149 = some .int := by decide +kernel
theorem pu_n149 : px_mx 149 = 2 ∧ px_mc 149 = 0 ∧ px_ms 149 = 0 := by decide +kernel
theorem pu_g149 : pu_sg 0 149 2 2 8 := by unfold pu_sg; decide +kernel
theorem pu_rt150 : px_rt 150 = some .int := by decide +kernel
theorem pu_n150 : px_mx 150 = 2 ∧ px_mc 150 = 0 ∧ px_ms 150 = 0 := by decide +kernel
theorem pu_g150 : pu_sg 0 150 2 2 8 := by unfold pu_sg; decide +kernel
theorem pu_rt151 : px_rt 151 = some .boolean := by decide +kernel
theorem pu_n151 : px_mx 151 = 2 ∧ px_mc 151 = 0 ∧ px_ms 151 = 0 := by decide +kernel
theorem pu_g151 : pu_sg 0 151 2 2 8 := by unfold pu_sg; decide +kernel
theorem pu_rt152 : px_rt 152 = some .boolean := by decide +kernel
theorem pu_n152 : px_mx 152 = 2 ∧ px_mc 152 = 0 ∧ px_ms 152 = 0 := by decide +kernel
theorem pu_g152 : pu_sg 0 152 2 2 8 := by unfold pu_sg; decide +kernel
theorem pu_rt153 : px_rt 153 = some .boolean := by decide +kernel
theorem pu_n153 : px_mx 153 = 2 ∧ px_mc 153 = 0 ∧ px_ms 153 = 0 := by decide +kernel
theorem pu_g153 : pu_sg 0 153 2 2 8 := by unfold pu_sg; decide +kernel
theorem pu_rt154 : px_rt 154 = some .boolean := by decide +kernel
theorem pu_n154 : px_mx 154 = 2 ∧ px_mc 154 = 0 ∧ px_ms 154 = 0 := by decide +kernel
theorem pu_g154 : pu_sg 0 154 2 2 8 := by unfold pu_sg; decide +kernel
theorem pu_rt155 : px_rt 155 = some .boolean := by decide +kernel
theorem pu_n155 : px_mx 155 = 2 ∧ px_mc 155 = 0 ∧ px_ms 155 = 0 := by decide +kernel
theorem pu_g155 : pu_sg 0 155 2 2 8 := by unfold pu_sg; decide +kernel
theorem pu_rt156 : px_rt 156 = some .boolean := by decide +kernel
theorem pu_n156 : px_mx 156 = 2 ∧ px_mc 156 = 0 ∧ px_ms 156 = 0 := by decide +kernel
theorem pu_g156 : pu_sg 0 156 2 2 8 := by unfold pu_sg; decide +kernel
theorem pu_rt157 : px_rt 157 = some .int := by decide +kernel
theorem pu_n157 : px_mx 157 = 5 ∧ px_mc 157 = 0 ∧ px_ms 157 = 0 := by decide +kernel
theorem pu_g157 : pu_sg 0 157 4 5 8 := by unfold pu_sg; decide +kernel
theorem pu_rt158 : px_rt 158 = some .int := by decide +kernel
theorem pu_n158 : px_mx 158 = 5 ∧ px_mc 158 = 0 ∧ px_ms 158 = 0 := by decide +kernel
theorem pu_g158 : pu_sg 0 158 4 5 8 := by unfold pu_sg; decide +kernel
theorem pu_rt159 : px_rt 159 = some .int := by decide +kernel
theorem pu_n159 : px_mx 159 = 7 ∧ px_mc 159 = 0 ∧ px_ms 159 = 0 := by decide +kernel
theorem pu_g159 : pu_sg 0 159 6 7 8 := by unfold pu_sg; decide +kernel
theorem pu_rt160 : px_rt 160 = some .long := by decide +kernel
theorem pu_n160 : px_mx 160 = 3 ∧ px_mc 160 = 0 ∧ px_ms 160 = 0 := by decide +kernel
theorem pu_g160 : pu_sg 0 160 3 3 8 := by unfold pu_sg; decide +kernel
theorem pu_rt161 : px_rt 161 = some .int := by decide +kernel
theorem pu_n161 : px_mx 161 = 5 ∧ px_mc 161 = 0 ∧ px_ms 161 = 0 := by decide +kernel
theorem pu_g161 : pu_sg 0 161 4 5 8 := by unfold pu_sg; decide +kernel
theorem pu_rt162 : px_rt 162 = some .int := by decide +kernel
theorem pu_n162 : px_mx 162 = 2 ∧ px_mc 162 = 0 ∧ px_ms 162 = 0 := by decide +kernel
theorem pu_g162 : pu_sg 0 162 2 2 8 := by unfold pu_sg; decide +kernel
theorem pu_rt163 : px_rt 163 = some .boolean := by decide +kernel
theorem pu_n163 : px_mx 163 = 3 ∧ px_mc 163 = 0 ∧ px_ms 163 = 0 := by decide +kernel
theorem pu_g163 : pu_sg 0 163 3 3 8 := by unfold pu_sg; decide +kernel
theorem pu_rt164 : px_rt 164 = some .int := by decide +kernel
theorem pu_n164 : px_mx 164 = 4 ∧ px_mc 164 = 0 ∧ px_ms 164 = 0 := by decide +kernel
theorem pu_g164 : pu_sg 0 164 3 4 8 := by unfold pu_sg; decide +kernel
theorem pu_rt165 : px_rt 165 = some .int := by decide +kernel
theorem pu_n165 : px_mx 165 = 4 ∧ px_mc 165 = 0 ∧ px_ms 165 = 0 := by decide +kernel
theorem pu_g165 : pu_sg 0 165 2 4 8 := by unfold pu_sg; decide +kernel
theorem pu_rt166 : px_rt 166 = some .int := by decide +kernel
theorem pu_n166 : px_mx 166 = 3 ∧ px_mc 166 = 0 ∧ px_ms 166 = 0 := by decide +kernel
theorem pu_g166 : pu_sg 0 166 3 3 8 := by unfold pu_sg; decide +kernel
theorem pu_rt167 : px_rt 167 = some .int := by decide +kernel
theorem pu_n167 : px_mx 167 = 3 ∧ px_mc 167 = 0 ∧ px_ms 167 = 0 := by decide +kernel
theorem pu_g167 : pu_sg 0 167 3 3 8 := by unfold pu_sg; decide +kernel
theorem pu_rt168 : px_rt 168 = some .boolean := by decide +kernel
theorem pu_n168 : px_mx 168 = 5 ∧ px_mc 168 = 0 ∧ px_ms 168 = 0 := by decide +kernel
theorem pu_g168 : pu_sg 0 168 5 5 8 := by unfold pu_sg; decide +kernel
theorem pu_rt169 : px_rt 169 = some .int := by decide +kernel
theorem pu_n169 : px_mx 169 = 5 ∧ px_mc 169 = 0 ∧ px_ms 169 = 0 := by decide +kernel
theorem pu_g169 : pu_sg 0 169 5 5 8 := by unfold pu_sg; decide +kernel
theorem pu_rt170 : px_rt 170 = some .int := by decide +kernel
theorem pu_n170 : px_mx 170 = 5 ∧ px_mc 170 = 0 ∧ px_ms 170 = 0 := by decide +kernel
theorem pu_g170 : pu_sg 0 170 5 5 8 := by unfold pu_sg; decide +kernel
theorem pu_rt171 : px_rt 171 = some .int := by decide +kernel
theorem pu_n171 : px_mx 171 = 3 ∧ px_mc 171 = 0 ∧ px_ms 171 = 0 := by decide +kernel
theorem pu_g171 : pu_sg 0 171 3 3 8 := by unfold pu_sg; decide +kernel
theorem pu_rt172 : px_rt 172 = some .int := by decide +kernel
theorem pu_n172 : px_mx 172 = 3 ∧ px_mc 172 = 0 ∧ px_ms 172 = 0 := by decide +kernel
theorem pu_g172 : pu_sg 0 172 3 3 8 := by unfold pu_sg; decide +kernel
theorem pu_rt173 : px_rt 173 = some .boolean := by decide +kernel
theorem pu_n173 : px_mx 173 = 2 ∧ px_mc 173 = 0 ∧ px_ms 173 = 0 := by decide +kernel
theorem pu_g173 : pu_sg 0 173 2 2 8 := by unfold pu_sg; decide +kernel
theorem pu_rt174 : px_rt 174 = some .int := by decide +kernel
theorem pu_n174 : px_mx 174 = 3 ∧ px_mc 174 = 0 ∧ px_ms 174 = 0 := by decide +kernel
theorem pu_g174 : pu_sg 0 174 3 3 8 := by unfold pu_sg; decide +kernel
theorem pu_rt175 : px_rt 175 = some .int := by decide +kernel
theorem pu_n175 : px_mx 175 = 3 ∧ px_mc 175 = 0 ∧ px_ms 175 = 0 := by decide +kernel
theorem pu_g175 : pu_sg 0 175 3 3 8 := by unfold pu_sg; decide +kernel
theorem pu_rt176 : px_rt 176 = some .int := by decide +kernel
theorem pu_n176 : px_mx 176 = 3 ∧ px_mc 176 = 0 ∧ px_ms 176 = 0 := by decide +kernel
theorem pu_g176 : pu_sg 0 176 3 3 8 := by unfold pu_sg; decide +kernel
theorem pu_rt177 : px_rt 177 = some .int := by decide +kernel
theorem pu_n177 : px_mx 177 = 3 ∧ px_mc 177 = 0 ∧ px_ms 177 = 0 := by decide +kernel
theorem pu_g177 : pu_sg 0 177 3 3 8 := by unfold pu_sg; decide +kernel
theorem pu_rt178 : px_rt 178 = some .int := by decide +kernel
theorem pu_n178 : px_mx 178 = 4 ∧ px_mc 178 = 0 ∧ px_ms 178 = 0 := by decide +kernel
theorem pu_g178 : pu_sg 0 178 4 4 8 := by unfold pu_sg; decide +kernel
theorem pu_rt179 : px_rt 179 = some .int := by decide +kernel
theorem pu_n179 : px_mx 179 = 4 ∧ px_mc 179 = 0 ∧ px_ms 179 = 0 := by decide +kernel
theorem pu_g179 : pu_sg 0 179 4 4 8 := by unfold pu_sg; decide +kernel
theorem pu_rt180 : px_rt 180 = some .boolean := by decide +kernel
theorem pu_n180 : px_mx 180 = 3 ∧ px_mc 180 = 0 ∧ px_ms 180 = 0 := by decide +kernel
theorem pu_g180 : pu_sg 0 180 3 3 8 := by unfold pu_sg; decide +kernel
theorem pu_rt181 : px_rt 181 = some .int := by decide +kernel
theorem pu_n181 : px_mx 181 = 4 ∧ px_mc 181 = 0 ∧ px_ms 181 = 0 := by decide +kernel
theorem pu_g181 : pu_sg 0 181 3 4 8 := by unfold pu_sg; decide +kernel
theorem pu_rt182 : px_rt 182 = some .int := by decide +kernel
theorem pu_n182 : px_mx 182 = 3 ∧ px_mc 182 = 0 ∧ px_ms 182 = 0 := by decide +kernel
theorem pu_g182 : pu_sg 0 182 3 3 8 := by unfold pu_sg; decide +kernel
theorem pu_rt183 : px_rt 183 = some .boolean := by decide +kernel
theorem pu_n183 : px_mx 183 = 2 ∧ px_mc 183 = 0 ∧ px_ms 183 = 0 := by decide +kernel
theorem pu_g183 : pu_sg 0 183 2 2 8 := by unfold pu_sg; decide +kernel
theorem pu_rt184 : px_rt 184 = some .int := by decide +kernel
theorem pu_n184 : px_mx 184 = 6 ∧ px_mc 184 = 0 ∧ px_ms 184 = 0 := by decide +kernel
theorem pu_g184 : pu_sg 0 184 1 6 8 := by unfold pu_sg; decide +kernel
theorem pu_rt185 : px_rt 185 = some .boolean := by decide +kernel
theorem pu_n185 : px_mx 185 = 1 ∧ px_mc 185 = 0 ∧ px_ms 185 = 0 := by decide +kernel
theorem pu_g185 : pu_sg 0 185 1 1 8 := by unfold pu_sg; decide +kernel
theorem pu_rt186 : px_rt 186 = some .boolean := by decide +kernel
theorem pu_n186 : px_mx 186 = 5 ∧ px_mc 186 = 0 ∧ px_ms 186 = 0 := by decide +kernel
theorem pu_g186 : pu_sg 0 186 3 5 8 := by unfold pu_sg; decide +kernel
theorem pu_rt187 : px_rt 187 = some .boolean := by decide +kernel
theorem pu_n187 : px_mx 187 = 3 ∧ px_mc 187 = 0 ∧ px_ms 187 = 0 := by decide +kernel
theorem pu_g187 : pu_sg 0 187 3 3 8 := by unfold pu_sg; decide +kernel
theorem pu_rt188 : px_rt 188 = some .boolean := by decide +kernel
theorem pu_n188 : px_mx 188 = 2 ∧ px_mc 188 = 0 ∧ px_ms 188 = 0 := by decide +kernel
theorem pu_g188 : pu_sg 0 188 2 2 8 := by unfold pu_sg; decide +kernel
theorem pu_rt189 : px_rt 189 = some .boolean := by decide +kernel
theorem pu_n189 : px_mx 189 = 4 ∧ px_mc 189 = 0 ∧ px_ms 189 = 0 := by decide +kernel
theorem pu_g189 : pu_sg 0 189 2 4 8 := by unfold pu_sg; decide +kernel
theorem pu_rt190 : px_rt 190 = some .boolean := by decide +kernel
theorem pu_n190 : px_mx 190 = 7 ∧ px_mc 190 = 0 ∧ px_ms 190 = 0 := by decide +kernel
theorem pu_g190 : pu_sg 0 190 1 7 8 := by unfold pu_sg; decide +kernel
theorem pu_rt191 : px_rt 191 = none := by decide +kernel
theorem pu_n191 : px_mx 191 = 3 ∧ px_mc 191 = 0 ∧ px_ms 191 = 0 := by decide +kernel
theorem pu_g191 : pu_sg 0 191 3 3 8 := by unfold pu_sg; decide +kernel
theorem pu_rt192 : px_rt 192 = some .int := by decide +kernel
theorem pu_n192 : px_mx 192 = 5 ∧ px_mc 192 = 0 ∧ px_ms 192 = 0 := by decide +kernel
theorem pu_g192 : pu_sg 0 192 2 5 8 := by unfold pu_sg; decide +kernel
theorem pu_rt193 : px_rt 193 = some .int := by decide +kernel
theorem pu_n193 : px_mx 193 = 1 ∧ px_mc 193 = 0 ∧ px_ms 193 = 0 := by decide +kernel
theorem pu_g193 : pu_sg 0 193 1 1 8 := by unfold pu_sg; decide +kernel
theorem pu_rt194 : px_rt 194 = some .int := by decide +kernel
theorem pu_n194 : px_mx 194 = 3 ∧ px_mc 194 = 0 ∧ px_ms 194 = 0 := by decide +kernel
theorem pu_g194 : pu_sg 0 194 3 3 8 := by unfold pu_sg; decide +kernel
theorem pu_rt195 : px_rt 195 = some .int := by decide +kernel
theorem pu_n195 : px_mx 195 = 3 ∧ px_mc 195 = 0 ∧ px_ms 195 = 0 := by decide +kernel
theorem pu_g195 : pu_sg 0 195 3 3 8 := by unfold pu_sg; decide +kernel
theorem pu_rt196 : px_rt 196 = some .int := by decide +kernel
theorem pu_n196 : px_mx 196 = 4 ∧ px_mc 196 = 0 ∧ px_ms 196 = 0 := by decide +kernel
theorem pu_g196 : pu_sg 0 196 3 4 8 := by unfold pu_sg; decide +kernel
theorem pu_rt197 : px_rt 197 = some .int := by decide +kernel
theorem pu_n197 : px_mx 197 = 4 ∧ px_mc 197 = 0 ∧ px_ms 197 = 0 := by decide +kernel
theorem pu_g197 : pu_sg 0 197 3 4 8 := by unfold pu_sg; decide +kernel
theorem pu_rt198 : px_rt 198 = some .int := by decide +kernel
theorem pu_n198 : px_mx 198 = 3 ∧ px_mc 198 = 0 ∧ px_ms 198 = 0 := by decide +kernel
theorem pu_g198 : pu_sg 0 198 1 3 8 := by unfold pu_sg; decide +kernel
theorem pu_rt199 : px_rt 199 = some .int := by decide +kernel
theorem pu_n199 : px_mx 199 = 2 ∧ px_mc 199 = 0 ∧ px_ms 199 = 0 := by decide +kernel
theorem pu_g199 : pu_sg 0 199 2 2 8 := by unfold pu_sg; decide +kernel
theorem pu_rt200 : px_rt 200 = some .boolean := by decide +kernel
theorem pu_n200 : px_mx 200 = 7 ∧ px_mc 200 = 0 ∧ px_ms 200 = 0 := by decide +kernel
theorem pu_g200 : pu_sg 0 200 4 7 8 := by unfold pu_sg; decide +kernel
theorem pu_rt201 : px_rt 201 = some .int := by decide +kernel
theorem pu_n201 : px_mx 201 = 9 ∧ px_mc 201 = 0 ∧ px_ms 201 = 0 := by decide +kernel
theorem pu_g201 : pu_sg 0 201 5 9 8 := by unfold pu_sg; decide +kernel
theorem pu_rt202 : px_rt 202 = some .int := by decide +kernel
theorem pu_n202 : px_mx 202 = 10 ∧ px_mc 202 = 0 ∧ px_ms 202 = 0 := by decide +kernel
theorem pu_g202 : pu_sg 0 202 4 10 8 := by unfold pu_sg; decide +kernel
theorem pu_rt203 : px_rt 203 = some .int := by decide +kernel
theorem pu_n203 : px_mx 203 = 5 ∧ px_mc 203 = 0 ∧ px_ms 203 = 0 := by decide +kernel
theorem pu_g203 : pu_sg 0 203 3 5 8 := by unfold pu_sg; decide +kernel
theorem pu_rt204 : px_rt 204 = some .int := by decide +kernel
theorem pu_n204 : px_mx 204 = 4 ∧ px_mc 204 = 0 ∧ px_ms 204 = 0 := by decide +kernel
theorem pu_g204 : pu_sg 0 204 3 4 8 := by unfold pu_sg; decide +kernel
theorem pu_rt205 : px_rt 205 = some .int := by decide +kernel
theorem pu_n205 : px_mx 205 = 6 ∧ px_mc 205 = 0 ∧ px_ms 205 = 0 := by decide +kernel
theorem pu_g205 : pu_sg 0 205 5 6 8 := by unfold pu_sg; decide +kernel
theorem pu_rt206 : px_rt 206 = some .int := by decide +kernel
theorem pu_n206 : px_mx 206 = 10 ∧ px_mc 206 = 0 ∧ px_ms 206 = 0 := by decide +kernel
theorem pu_g206 : pu_sg 0 206 7 10 8 := by unfold pu_sg; decide +kernel
theorem pu_rt207 : px_rt 207 = some .int := by decide +kernel
theorem pu_n207 : px_mx 207 = 5 ∧ px_mc 207 = 0 ∧ px_ms 207 = 0 := by decide +kernel
theorem pu_g207 : pu_sg 0 207 5 5 8 := by unfold pu_sg; decide +kernel
theorem pu_rt208 : px_rt 208 = some .int := by decide +kernel
theorem pu_n208 : px_mx 208 = 6 ∧ px_mc 208 = 0 ∧ px_ms 208 = 0 := by decide +kernel
theorem pu_g208 : pu_sg 0 208 5 6 8 := by unfold pu_sg; decide +kernel
theorem pu_rt209 : px_rt 209 = some .int := by decide +kernel
theorem pu_n209 : px_mx 209 = 9 ∧ px_mc 209 = 0 ∧ px_ms 209 = 0 := by decide +kernel
theorem pu_g209 : pu_sg 0 209 5 9 8 := by unfold pu_sg; decide +kernel
theorem pu_rt210 : px_rt 210 = some .boolean := by decide +kernel
theorem pu_n210 : px_mx 210 = 3 ∧ px_mc 210 = 0 ∧ px_ms 210 = 0 := by decide +kernel
theorem pu_g210 : pu_sg 0 210 2 3 8 := by unfold pu_sg; decide +kernel
theorem pu_rt211 : px_rt 211 = some .int := by decide +kernel
theorem pu_n211 : px_mx 211 = 5 ∧ px_mc 211 = 0 ∧ px_ms 211 = 0 := by decide +kernel
theorem pu_g211 : pu_sg 0 211 1 5 8 := by unfold pu_sg; decide +kernel
theorem pu_rt212 : px_rt 212 = none := by decide +kernel
theorem pu_n212 : px_mx 212 = 7 ∧ px_mc 212 = 0 ∧ px_ms 212 = 0 := by decide +kernel
theorem pu_g212 : pu_sg 0 212 6 7 8 := by unfold pu_sg; decide +kernel
theorem pu_rt213 : px_rt 213 = some .int := by decide +kernel
theorem pu_n213 : px_mx 213 = 5 ∧ px_mc 213 = 0 ∧ px_ms 213 = 0 := by decide +kernel
theorem pu_g213 : pu_sg 0 213 4 5 8 := by unfold pu_sg; decide +kernel
theorem pu_rt214 : px_rt 214 = some .int := by decide +kernel
theorem pu_n214 : px_mx 214 = 5 ∧ px_mc 214 = 0 ∧ px_ms 214 = 0 := by decide +kernel
theorem pu_g214 : pu_sg 0 214 4 5 8 := by unfold pu_sg; decide +kernel
theorem pu_rt215 : px_rt 215 = some .int := by decide +kernel
theorem pu_n215 : px_mx 215 = 5 ∧ px_mc 215 = 0 ∧ px_ms 215 = 0 := by decide +kernel
theorem pu_g215 : pu_sg 0 215 3 5 8 := by unfold pu_sg; decide +kernel
theorem pu_rt216 : px_rt 216 = some .int := by decide +kernel
theorem pu_n216 : px_mx 216 = 3 ∧ px_mc 216 = 0 ∧ px_ms 216 = 0 := by decide +kernel
theorem pu_g216 : pu_sg 0 216 3 3 8 := by unfold pu_sg; decide +kernel
theorem pu_rt217 : px_rt 217 = none := by decide +kernel
theorem pu_n217 : px_mx 217 = 5 ∧ px_mc 217 = 0 ∧ px_ms 217 = 0 := by decide +kernel
theorem pu_g217 : pu_sg 0 217 3 5 8 := by unfold pu_sg; decide +kernel
theorem pu_rt218 : px_rt 218 = some .int := by decide +kernel
theorem pu_n218 : px_mx 218 = 4 ∧ px_mc 218 = 0 ∧ px_ms 218 = 0 := by decide +kernel
theorem pu_g218 : pu_sg 0 218 2 4 8 := by unfold pu_sg; decide +kernel
theorem pu_rt219 : px_rt 219 = some .boolean := by decide +kernel
theorem pu_n219 : px_mx 219 = 4 ∧ px_mc 219 = 0 ∧ px_ms 219 = 0 := by decide +kernel
theorem pu_g219 : pu_sg 0 219 2 4 8 := by unfold pu_sg; decide +kernel
theorem pu_rt220 : px_rt 220 = some .int := by decide +kernel
theorem pu_n220 : px_mx 220 = 11 ∧ px_mc 220 = 0 ∧ px_ms 220 = 0 := by decide +kernel
theorem pu_g220 : pu_sg 0 220 4 11 8 := by unfold pu_sg; decide +kernel
theorem pu_rt221 : px_rt 221 = some .int := by decide +kernel
theorem pu_n221 : px_mx 221 = 5 ∧ px_mc 221 = 0 ∧ px_ms 221 = 0 := by decide +kernel
theorem pu_g221 : pu_sg 0 221 4 5 8 := by unfold pu_sg; decide +kernel
theorem pu_rt222 : px_rt 222 = some .int := by decide +kernel
theorem pu_n222 : px_mx 222 = 3 ∧ px_mc 222 = 0 ∧ px_ms 222 = 0 := by decide +kernel
theorem pu_g222 : pu_sg 0 222 3 3 8 := by unfold pu_sg; decide +kernel
theorem pu_rt223 : px_rt 223 = some .int := by decide +kernel
theorem pu_n223 : px_mx 223 = 3 ∧ px_mc 223 = 0 ∧ px_ms 223 = 0 := by decide +kernel
theorem pu_g223 : pu_sg 0 223 3 3 8 := by unfold pu_sg; decide +kernel
theorem pu_rt224 : px_rt 224 = some .int := by decide +kernel
theorem pu_n224 : px_mx 224 = 3 ∧ px_mc 224 = 0 ∧ px_ms 224 = 0 := by decide +kernel
theorem pu_g224 : pu_sg 0 224 3 3 8 := by unfold pu_sg; decide +kernel
theorem pu_rt225 : px_rt 225 = some .int := by decide +kernel
theorem pu_n225 : px_mx 225 = 10 ∧ px_mc 225 = 0 ∧ px_ms 225 = 0 := by decide +kernel
theorem pu_g225 : pu_sg 0 225 3 10 8 := by unfold pu_sg; decide +kernel
theorem pu_rt226 : px_rt 226 = some .int := by decide +kernel
theorem pu_n226 : px_mx 226 = 7 ∧ px_mc 226 = 0 ∧ px_ms 226 = 0 := by decide +kernel
theorem pu_g226 : pu_sg 0 226 2 7 8 := by unfold pu_sg; decide +kernel
theorem pu_rt227 : px_rt 227 = some .int := by decide +kernel
theorem pu_n227 : px_mx 227 = 4 ∧ px_mc 227 = 0 ∧ px_ms 227 = 0 := by decide +kernel
theorem pu_g227 : pu_sg 0 227 2 4 8 := by unfold pu_sg; decide +kernel
theorem pu_rt228 : px_rt 228 = some .int := by decide +kernel
theorem pu_n228 : px_mx 228 = 6 ∧ px_mc 228 = 0 ∧ px_ms 228 = 0 := by decide +kernel
theorem pu_g228 : pu_sg 0 228 1 6 8 := by unfold pu_sg; decide +kernel
theorem pu_rt229 : px_rt 229 = some .int := by decide +kernel
theorem pu_n229 : px_mx 229 = 10 ∧ px_mc 229 = 0 ∧ px_ms 229 = 0 := by decide +kernel
theorem pu_g229 : pu_sg 0 229 4 10 8 := by unfold pu_sg; decide +kernel
theorem pu_rt230 : px_rt 230 = some .int := by decide +kernel
theorem pu_n230 : px_mx 230 = 6 ∧ px_mc 230 = 0 ∧ px_ms 230 = 0 := by decide +kernel
theorem pu_g230 : pu_sg 0 230 3 6 8 := by unfold pu_sg; decide +kernel
theorem pu_rt231 : px_rt 231 = some .int := by decide +kernel
theorem pu_n231 : px_mx 231 = 4 ∧ px_mc 231 = 0 ∧ px_ms 231 = 0 := by decide +kernel
theorem pu_g231 : pu_sg 0 231 2 4 8 := by unfold pu_sg; decide +kernel
theorem pu_rt232 : px_rt 232 = some .int := by decide +kernel
theorem pu_n232 : px_mx 232 = 8 ∧ px_mc 232 = 0 ∧ px_ms 232 = 0 := by decide +kernel
theorem pu_g232 : pu_sg 0 232 3 8 8 := by unfold pu_sg; decide +kernel
theorem pu_rt233 : px_rt 233 = some .int := by decide +kernel
theorem pu_n233 : px_mx 233 = 5 ∧ px_mc 233 = 0 ∧ px_ms 233 = 0 := by decide +kernel
theorem pu_g233 : pu_sg 0 233 3 5 8 := by unfold pu_sg; decide +kernel
theorem pu_rt234 : px_rt 234 = some .int := by decide +kernel
theorem pu_n234 : px_mx 234 = 4 ∧ px_mc 234 = 0 ∧ px_ms 234 = 0 := by decide +kernel
theorem pu_g234 : pu_sg 0 234 3 4 8 := by unfold pu_sg; decide +kernel
theorem pu_rt235 : px_rt 235 = some .int := by decide +kernel
theorem pu_n235 : px_mx 235 = 6 ∧ px_mc 235 = 0 ∧ px_ms 235 = 0 := by decide +kernel
theorem pu_g235 : pu_sg 0 235 4 6 8 := by unfold pu_sg; decide +kernel
theorem pu_rt236 : px_rt 236 = none := by decide +kernel
theorem pu_n236 : px_mx 236 = 2 ∧ px_mc 236 = 0 ∧ px_ms 236 = 0 := by decide +kernel
theorem pu_g236 : pu_sg 0 236 2 2 8 := by unfold pu_sg; decide +kernel
theorem pu_rt237 : px_rt 237 = some .int := by decide +kernel
theorem pu_n237 : px_mx 237 = 5 ∧ px_mc 237 = 0 ∧ px_ms 237 = 0 := by decide +kernel
theorem pu_g237 : pu_sg 0 237 3 5 8 := by unfold pu_sg; decide +kernel
theorem pu_rt238 : px_rt 238 = some .int := by decide +kernel
theorem pu_n238 : px_mx 238 = 7 ∧ px_mc 238 = 0 ∧ px_ms 238 = 0 := by decide +kernel
theorem pu_g238 : pu_sg 0 238 3 7 8 := by unfold pu_sg; decide +kernel
theorem pu_rt239 : px_rt 239 = some .int := by decide +kernel
theorem pu_n239 : px_mx 239 = 6 ∧ px_mc 239 = 0 ∧ px_ms 239 = 0 := by decide +kernel
theorem pu_g239 : pu_sg 0 239 3 6 8 := by unfold pu_sg; decide +kernel
theorem pu_rt240 : px_rt 240 = some .int := by decide +kernel
theorem pu_n240 : px_mx 240 = 4 ∧ px_mc 240 = 0 ∧ px_ms 240 = 0 := by decide +kernel
theorem pu_g240 : pu_sg 0 240 4 4 8 := by unfold pu_sg; decide +kernel
theorem pu_rt241 : px_rt 241 = some .int := by decide +kernel
theorem pu_n241 : px_mx 241 = 2 ∧ px_mc 241 = 0 ∧ px_ms 241 = 0 := by decide +kernel
theorem pu_g241 : pu_sg 0 241 2 2 8 := by unfold pu_sg; decide +kernel
theorem pu_rt242 : px_rt 242 = some .int := by decide +kernel
theorem pu_n242 : px_mx 242 = 6 ∧ px_mc 242 = 0 ∧ px_ms 242 = 0 := by decide +kernel
theorem pu_g242 : pu_sg 0 242 5 6 8 := by unfold pu_sg; decide +kernel
theorem pu_rt243 : px_rt 243 = none := by decide +kernel
theorem pu_n243 : px_mx 243 = 3 ∧ px_mc 243 = 0 ∧ px_ms 243 = 0 := by decide +kernel
theorem pu_g243 : pu_sg 0 243 2 3 8 := by unfold pu_sg; decide +kernel
theorem pu_rt244 : px_rt 244 = some .int := by decide +kernel
theorem pu_n244 : px_mx 244 = 1 ∧ px_mc 244 = 0 ∧ px_ms 244 = 0 := by decide +kernel
theorem pu_g244 : pu_sg 0 244 1 1 8 := by unfold pu_sg; decide +kernel
theorem pu_rt245 : px_rt 245 = some .int := by decide +kernel
theorem pu_n245 : px_mx 245 = 1 ∧ px_mc 245 = 0 ∧ px_ms 245 = 0 := by decide +kernel
theorem pu_g245 : pu_sg 0 245 1 1 8 := by unfold pu_sg; decide +kernel
theorem pu_rt246 : px_rt 246 = some .int := by decide +kernel
theorem pu_n246 : px_mx 246 = 4 ∧ px_mc 246 = 0 ∧ px_ms 246 = 0 := by decide +kernel
theorem pu_g246 : pu_sg 0 246 2 4 8 := by unfold pu_sg; decide +kernel
theorem pu_rt247 : px_rt 247 = some .int := by decide +kernel
theorem pu_n247 : px_mx 247 = 1 ∧ px_mc 247 = 0 ∧ px_ms 247 = 0 := by decide +kernel
theorem pu_g247 : pu_sg 1 247 1 1 13 := by unfold pu_sg; decide +kernel
theorem pu_rt248 : px_rt 248 = some .int := by decide +kernel
theorem pu_n248 : px_mx 248 = 1 ∧ px_mc 248 = 0 ∧ px_ms 248 = 0 := by decide +kernel
theorem pu_rt249 : px_rt 249 = some .int := by decide +kernel
theorem pu_n249 : px_mx 249 = 2 ∧ px_mc 249 = 0 ∧ px_ms 249 = 0 := by decide +kernel
theorem pu_rt250 : px_rt 250 = some .int := by decide +kernel
theorem pu_n250 : px_mx 250 = 2 ∧ px_mc 250 = 0 ∧ px_ms 250 = 0 := by decide +kernel
theorem pu_rt251 : px_rt 251 = some .int := by decide +kernel
theorem pu_n251 : px_mx 251 = 1 ∧ px_mc 251 = 0 ∧ px_ms 251 = 0 := by decide +kernel
theorem pu_g251 : pu_sg 0 251 1 1 14 := by unfold pu_sg; decide +kernel
theorem pu_rt252 : px_rt 252 = some .char := by decide +kernel
theorem pu_n252 : px_mx 252 = 2 ∧ px_mc 252 = 0 ∧ px_ms 252 = 0 := by decide +kernel
theorem pu_g252 : pu_sg 0 252 2 2 14 := by unfold pu_sg; decide +kernel
theorem pu_rt253 : px_rt 253 = some .byte := by decide +kernel
theorem pu_n253 : px_mx 253 = 1 ∧ px_mc 253 = 0 ∧ px_ms 253 = 0 := by decide +kernel
theorem pu_g253 : pu_sg 0 253 1 1 14 := by unfold pu_sg; decide +kernel
theorem pu_rt254 : px_rt 254 = some .boolean := by decide +kernel
theorem pu_n254 : px_mx 254 = 1 ∧ px_mc 254 = 0 ∧ px_ms 254 = 0 := by decide +kernel
theorem pu_g254 : pu_sg 0 254 1 1 14 := by unfold pu_sg; decide +kernel
theorem pu_rt255 : px_rt 255 = none := by decide +kernel
theorem pu_n255 : px_mx 255 = 2 ∧ px_mc 255 = 0 ∧ px_ms 255 = 0 := by decide +kernel
theorem pu_g255 : pu_sg 1 255 2 2 14 := by unfold pu_sg; decide +kernel
theorem pu_rt256 : px_rt 256 = some .char := by decide +kernel
theorem pu_n256 : px_mx 256 = 2 ∧ px_mc 256 = 0 ∧ px_ms 256 = 0 := by decide +kernel
theorem pu_g256 : pu_sg 1 256 2 2 15 := by unfold pu_sg; decide +kernel
theorem pu_rt257 : px_rt 257 = none := by decide +kernel
theorem pu_n257 : px_mx 257 = 5 ∧ px_mc 257 = 0 ∧ px_ms 257 = 0 := by decide +kernel
theorem pu_g257 : pu_sg 1 257 2 5 11 := by unfold pu_sg; decide +kernel
theorem pu_rt258 : px_rt 258 = none := by decide +kernel
theorem pu_n258 : px_mx 258 = 4 ∧ px_mc 258 = 0 ∧ px_ms 258 = 0 := by decide +kernel
theorem pu_g258 : pu_sg 1 258 2 4 11 := by unfold pu_sg; decide +kernel
theorem pu_rt259 : px_rt 259 = some .int := by decide +kernel
theorem pu_n259 : px_mx 259 = 3 ∧ px_mc 259 = 0 ∧ px_ms 259 = 0 := by decide +kernel
theorem pu_g259 : pu_sg 1 259 3 3 16 := by unfold pu_sg; decide +kernel
theorem pu_rt260 : px_rt 260 = some .boolean := by decide +kernel
theorem pu_b1 : px_blk 1 = [(0, px_c1_0)] := rfl
theorem pu_t1_0 : px_to 1 0 = px_c1_0 := by unfold px_to; rw [pu_b1]; rfl
theorem pu_b2 : px_blk 2 = [(0, px_c2_0)] := rfl
theorem pu_t2_0 : px_to 2 0 = px_c2_0 := by unfold px_to; rw [pu_b2]; rfl
theorem pu_b3 : px_blk 3 = [(0, px_c3_0), (30, px_c3_30), (31, px_c3_31)] := rfl
theorem pu_t3_0 : px_to 3 0 = px_c3_0 := by unfold px_to; rw [pu_b3]; rfl
theorem pu_t3_30 : px_to 3 30 = px_c3_30 := by unfold px_to; rw [pu_b3]; rfl
theorem pu_t3_31 : px_to 3 31 = px_c3_31 := by unfold px_to; rw [pu_b3]; rfl
theorem pu_b4 : px_blk 4 = [(0, px_c4_0), (22, px_c4_22)] := rfl
theorem pu_t4_0 : px_to 4 0 = px_c4_0 := by unfold px_to; rw [pu_b4]; rfl
theorem pu_t4_22 : px_to 4 22 = px_c4_22 := by unfold px_to; rw [pu_b4]; rfl
theorem pu_b5 : px_blk 5 = [(0, px_c5_0), (14, px_c5_14), (28, px_c5_28), (42, px_c5_42), (92, px_c5_92), (99, px_c5_99), (106, px_c5_106), (110, px_c5_110)] := rfl
theorem pu_t5_0 : px_to 5 0 = px_c5_0 := by unfold px_to; rw [pu_b5]; rfl
theorem pu_t5_14 : px_to 5 14 = px_c5_14 := by unfold px_to; rw [pu_b5]; rfl
theorem pu_t5_28 : px_to 5 28 = px_c5_28 := by unfold px_to; rw [pu_b5]; rfl
theorem pu_t5_42 : px_to 5 42 = px_c5_42 := by unfold px_to; rw [pu_b5]; rfl
theorem pu_t5_92 : px_to 5 92 = px_c5_92 := by unfold px_to; rw [pu_b5]; rfl
theorem pu_t5_99 : px_to 5 99 = px_c5_99 := by unfold px_to; rw [pu_b5]; rfl
theorem pu_t5_106 : px_to 5 106 = px_c5_106 := by unfold px_to; rw [pu_b5]; rfl
theorem pu_t5_110 : px_to 5 110 = px_c5_110 := by unfold px_to; rw [pu_b5]; rfl
theorem pu_b6 : px_blk 6 = [(0, px_c6_0), (24, px_c6_24), (28, px_c6_28), (29, px_c6_29), (44, px_c6_44), (54, px_c6_54), (69, px_c6_69), (90, px_c6_90), (91, px_c6_91), (105, px_c6_105), (120, px_c6_120), (121, px_c6_121)] := rfl
theorem pu_t6_0 : px_to 6 0 = px_c6_0 := by unfold px_to; rw [pu_b6]; rfl
theorem pu_t6_24 : px_to 6 24 = px_c6_24 := by unfold px_to; rw [pu_b6]; rfl
theorem pu_t6_28 : px_to 6 28 = px_c6_28 := by unfold px_to; rw [pu_b6]; rfl
theorem pu_t6_29 : px_to 6 29 = px_c6_29 := by unfold px_to; rw [pu_b6]; rfl
theorem pu_t6_44 : px_to 6 44 = px_c6_44 := by unfold px_to; rw [pu_b6]; rfl
theorem pu_t6_54 : px_to 6 54 = px_c6_54 := by unfold px_to; rw [pu_b6]; rfl
theorem pu_t6_69 : px_to 6 69 = px_c6_69 := by unfold px_to; rw [pu_b6]; rfl
theorem pu_t6_90 : px_to 6 90 = px_c6_90 := by unfold px_to; rw [pu_b6]; rfl
theorem pu_t6_91 : px_to 6 91 = px_c6_91 := by unfold px_to; rw [pu_b6]; rfl
theorem pu_t6_105 : px_to 6 105 = px_c6_105 := by unfold px_to; rw [pu_b6]; rfl
theorem pu_t6_120 : px_to 6 120 = px_c6_120 := by unfold px_to; rw [pu_b6]; rfl
theorem pu_t6_121 : px_to 6 121 = px_c6_121 := by unfold px_to; rw [pu_b6]; rfl
theorem pu_b7 : px_blk 7 = [(0, px_c7_0), (14, px_c7_14), (29, px_c7_29), (47, px_c7_47), (48, px_c7_48), (89, px_c7_89), (91, px_c7_91)] := rfl
theorem pu_t7_0 : px_to 7 0 = px_c7_0 := by unfold px_to; rw [pu_b7]; rfl
theorem pu_t7_14 : px_to 7 14 = px_c7_14 := by unfold px_to; rw [pu_b7]; rfl
theorem pu_t7_29 : px_to 7 29 = px_c7_29 := by unfold px_to; rw [pu_b7]; rfl
theorem pu_t7_47 : px_to 7 47 = px_c7_47 := by unfold px_to; rw [pu_b7]; rfl
theorem pu_t7_48 : px_to 7 48 = px_c7_48 := by unfold px_to; rw [pu_b7]; rfl
theorem pu_t7_89 : px_to 7 89 = px_c7_89 := by unfold px_to; rw [pu_b7]; rfl
theorem pu_t7_91 : px_to 7 91 = px_c7_91 := by unfold px_to; rw [pu_b7]; rfl
theorem pu_b9 : px_blk 9 = [(0, px_c9_0), (38, px_c9_38), (74, px_c9_74), (80, px_c9_80), (96, px_c9_96), (98, px_c9_98), (116, px_c9_116), (154, px_c9_154), (160, px_c9_160), (163, px_c9_163), (194, px_c9_194)] := rfl
theorem pu_t9_0 : px_to 9 0 = px_c9_0 := by unfold px_to; rw [pu_b9]; rfl
theorem pu_t9_38 : px_to 9 38 = px_c9_38 := by unfold px_to; rw [pu_b9]; rfl
theorem pu_t9_74 : px_to 9 74 = px_c9_74 := by unfold px_to; rw [pu_b9]; rfl
theorem pu_t9_80 : px_to 9 80 = px_c9_80 := by unfold px_to; rw [pu_b9]; rfl
theorem pu_t9_96 : px_to 9 96 = px_c9_96 := by unfold px_to; rw [pu_b9]; rfl
theorem pu_t9_98 : px_to 9 98 = px_c9_98 := by unfold px_to; rw [pu_b9]; rfl
theorem pu_t9_116 : px_to 9 116 = px_c9_116 := by unfold px_to; rw [pu_b9]; rfl
theorem pu_t9_154 : px_to 9 154 = px_c9_154 := by unfold px_to; rw [pu_b9]; rfl
theorem pu_t9_160 : px_to 9 160 = px_c9_160 := by unfold px_to; rw [pu_b9]; rfl
theorem pu_t9_163 : px_to 9 163 = px_c9_163 := by unfold px_to; rw [pu_b9]; rfl
theorem pu_t9_194 : px_to 9 194 = px_c9_194 := by unfold px_to; rw [pu_b9]; rfl
theorem pu_b10 : px_blk 10 = [(0, px_c10_0), (5, px_c10_5), (35, px_c10_35), (59, px_c10_59), (63, px_c10_63), (64, px_c10_64), (74, px_c10_74), (80, px_c10_80)] := rfl
theorem pu_t10_0 : px_to 10 0 = px_c10_0 := by unfold px_to; rw [pu_b10]; rfl
theorem pu_t10_5 : px_to 10 5 = px_c10_5 := by unfold px_to; rw [pu_b10]; rfl
theorem pu_t10_35 : px_to 10 35 = px_c10_35 := by unfold px_to; rw [pu_b10]; rfl
theorem pu_t10_59 : px_to 10 59 = px_c10_59 := by unfold px_to; rw [pu_b10]; rfl
theorem pu_t10_63 : px_to 10 63 = px_c10_63 := by unfold px_to; rw [pu_b10]; rfl
theorem pu_t10_64 : px_to 10 64 = px_c10_64 := by unfold px_to; rw [pu_b10]; rfl
theorem pu_t10_74 : px_to 10 74 = px_c10_74 := by unfold px_to; rw [pu_b10]; rfl
theorem pu_t10_80 : px_to 10 80 = px_c10_80 := by unfold px_to; rw [pu_b10]; rfl
theorem pu_b11 : px_blk 11 = [(0, px_c11_0), (30, px_c11_30), (31, px_c11_31), (32, px_c11_32), (49, px_c11_49), (50, px_c11_50)] := rfl
theorem pu_t11_0 : px_to 11 0 = px_c11_0 := by unfold px_to; rw [pu_b11]; rfl
theorem pu_t11_30 : px_to 11 30 = px_c11_30 := by unfold px_to; rw [pu_b11]; rfl
theorem pu_t11_31 : px_to 11 31 = px_c11_31 := by unfold px_to; rw [pu_b11]; rfl
theorem pu_t11_32 : px_to 11 32 = px_c11_32 := by unfold px_to; rw [pu_b11]; rfl
theorem pu_t11_49 : px_to 11 49 = px_c11_49 := by unfold px_to; rw [pu_b11]; rfl
theorem pu_t11_50 : px_to 11 50 = px_c11_50 := by unfold px_to; rw [pu_b11]; rfl
theorem pu_b12 : px_blk 12 = [(0, px_c12_0), (4, px_c12_4), (29, px_c12_29), (35, px_c12_35)] := rfl
theorem pu_t12_0 : px_to 12 0 = px_c12_0 := by unfold px_to; rw [pu_b12]; rfl
theorem pu_t12_4 : px_to 12 4 = px_c12_4 := by unfold px_to; rw [pu_b12]; rfl
theorem pu_t12_29 : px_to 12 29 = px_c12_29 := by unfold px_to; rw [pu_b12]; rfl
theorem pu_t12_35 : px_to 12 35 = px_c12_35 := by unfold px_to; rw [pu_b12]; rfl
theorem pu_b13 : px_blk 13 = [(0, px_c13_0), (23, px_c13_23), (24, px_c13_24)] := rfl
theorem pu_t13_0 : px_to 13 0 = px_c13_0 := by unfold px_to; rw [pu_b13]; rfl
theorem pu_t13_23 : px_to 13 23 = px_c13_23 := by unfold px_to; rw [pu_b13]; rfl
theorem pu_t13_24 : px_to 13 24 = px_c13_24 := by unfold px_to; rw [pu_b13]; rfl
theorem pu_b14 : px_blk 14 = [(0, px_c14_0), (2, px_c14_2), (34, px_c14_34), (40, px_c14_40)] := rfl
theorem pu_t14_0 : px_to 14 0 = px_c14_0 := by unfold px_to; rw [pu_b14]; rfl
theorem pu_t14_2 : px_to 14 2 = px_c14_2 := by unfold px_to; rw [pu_b14]; rfl
theorem pu_t14_34 : px_to 14 34 = px_c14_34 := by unfold px_to; rw [pu_b14]; rfl
theorem pu_t14_40 : px_to 14 40 = px_c14_40 := by unfold px_to; rw [pu_b14]; rfl
theorem pu_b15 : px_blk 15 = [(0, px_c15_0), (2, px_c15_2), (20, px_c15_20), (53, px_c15_53), (59, px_c15_59), (79, px_c15_79), (81, px_c15_81), (97, px_c15_97)] := rfl
theorem pu_t15_0 : px_to 15 0 = px_c15_0 := by unfold px_to; rw [pu_b15]; rfl
theorem pu_t15_2 : px_to 15 2 = px_c15_2 := by unfold px_to; rw [pu_b15]; rfl
theorem pu_t15_20 : px_to 15 20 = px_c15_20 := by unfold px_to; rw [pu_b15]; rfl
theorem pu_t15_53 : px_to 15 53 = px_c15_53 := by unfold px_to; rw [pu_b15]; rfl
theorem pu_t15_59 : px_to 15 59 = px_c15_59 := by unfold px_to; rw [pu_b15]; rfl
theorem pu_t15_79 : px_to 15 79 = px_c15_79 := by unfold px_to; rw [pu_b15]; rfl
theorem pu_t15_81 : px_to 15 81 = px_c15_81 := by unfold px_to; rw [pu_b15]; rfl
theorem pu_t15_97 : px_to 15 97 = px_c15_97 := by unfold px_to; rw [pu_b15]; rfl
theorem pu_b16 : px_blk 16 = [(0, px_c16_0), (4, px_c16_4), (25, px_c16_25), (37, px_c16_37)] := rfl
theorem pu_t16_0 : px_to 16 0 = px_c16_0 := by unfold px_to; rw [pu_b16]; rfl
theorem pu_t16_4 : px_to 16 4 = px_c16_4 := by unfold px_to; rw [pu_b16]; rfl
theorem pu_t16_25 : px_to 16 25 = px_c16_25 := by unfold px_to; rw [pu_b16]; rfl
theorem pu_t16_37 : px_to 16 37 = px_c16_37 := by unfold px_to; rw [pu_b16]; rfl
theorem pu_b17 : px_blk 17 = [(0, px_c17_0), (12, px_c17_12), (34, px_c17_34), (50, px_c17_50), (78, px_c17_78), (95, px_c17_95), (96, px_c17_96)] := rfl
theorem pu_t17_0 : px_to 17 0 = px_c17_0 := by unfold px_to; rw [pu_b17]; rfl
theorem pu_t17_12 : px_to 17 12 = px_c17_12 := by unfold px_to; rw [pu_b17]; rfl
theorem pu_t17_34 : px_to 17 34 = px_c17_34 := by unfold px_to; rw [pu_b17]; rfl
theorem pu_t17_50 : px_to 17 50 = px_c17_50 := by unfold px_to; rw [pu_b17]; rfl
theorem pu_t17_78 : px_to 17 78 = px_c17_78 := by unfold px_to; rw [pu_b17]; rfl
theorem pu_t17_95 : px_to 17 95 = px_c17_95 := by unfold px_to; rw [pu_b17]; rfl
theorem pu_t17_96 : px_to 17 96 = px_c17_96 := by unfold px_to; rw [pu_b17]; rfl
theorem pu_b18 : px_blk 18 = [(0, px_c18_0), (5, px_c18_5), (26, px_c18_26), (57, px_c18_57), (60, px_c18_60), (66, px_c18_66)] := rfl
theorem pu_t18_0 : px_to 18 0 = px_c18_0 := by unfold px_to; rw [pu_b18]; rfl
theorem pu_t18_5 : px_to 18 5 = px_c18_5 := by unfold px_to; rw [pu_b18]; rfl
theorem pu_t18_26 : px_to 18 26 = px_c18_26 := by unfold px_to; rw [pu_b18]; rfl
theorem pu_t18_57 : px_to 18 57 = px_c18_57 := by unfold px_to; rw [pu_b18]; rfl
theorem pu_t18_60 : px_to 18 60 = px_c18_60 := by unfold px_to; rw [pu_b18]; rfl
theorem pu_t18_66 : px_to 18 66 = px_c18_66 := by unfold px_to; rw [pu_b18]; rfl
theorem pu_b20 : px_blk 20 = [(0, px_c20_0), (19, px_c20_19), (44, px_c20_44)] := rfl
theorem pu_t20_0 : px_to 20 0 = px_c20_0 := by unfold px_to; rw [pu_b20]; rfl
theorem pu_t20_19 : px_to 20 19 = px_c20_19 := by unfold px_to; rw [pu_b20]; rfl
theorem pu_t20_44 : px_to 20 44 = px_c20_44 := by unfold px_to; rw [pu_b20]; rfl
theorem pu_b21 : px_blk 21 = [(0, px_c21_0), (8, px_c21_8), (40, px_c21_40)] := rfl
theorem pu_t21_0 : px_to 21 0 = px_c21_0 := by unfold px_to; rw [pu_b21]; rfl
theorem pu_t21_8 : px_to 21 8 = px_c21_8 := by unfold px_to; rw [pu_b21]; rfl
theorem pu_t21_40 : px_to 21 40 = px_c21_40 := by unfold px_to; rw [pu_b21]; rfl
theorem pu_b22 : px_blk 22 = [(0, px_c22_0), (2, px_c22_2), (35, px_c22_35)] := rfl
theorem pu_t22_0 : px_to 22 0 = px_c22_0 := by unfold px_to; rw [pu_b22]; rfl
theorem pu_t22_2 : px_to 22 2 = px_c22_2 := by unfold px_to; rw [pu_b22]; rfl
theorem pu_t22_35 : px_to 22 35 = px_c22_35 := by unfold px_to; rw [pu_b22]; rfl
theorem pu_b23 : px_blk 23 = [(0, px_c23_0), (11, px_c23_11), (21, px_c23_21), (32, px_c23_32), (45, px_c23_45), (46, px_c23_46)] := rfl
theorem pu_t23_0 : px_to 23 0 = px_c23_0 := by unfold px_to; rw [pu_b23]; rfl
theorem pu_t23_11 : px_to 23 11 = px_c23_11 := by unfold px_to; rw [pu_b23]; rfl
theorem pu_t23_21 : px_to 23 21 = px_c23_21 := by unfold px_to; rw [pu_b23]; rfl
theorem pu_t23_32 : px_to 23 32 = px_c23_32 := by unfold px_to; rw [pu_b23]; rfl
theorem pu_t23_45 : px_to 23 45 = px_c23_45 := by unfold px_to; rw [pu_b23]; rfl
theorem pu_t23_46 : px_to 23 46 = px_c23_46 := by unfold px_to; rw [pu_b23]; rfl
theorem pu_b24 : px_blk 24 = [(0, px_c24_0), (32, px_c24_32), (38, px_c24_38), (43, px_c24_43), (49, px_c24_49), (55, px_c24_55)] := rfl
theorem pu_t24_0 : px_to 24 0 = px_c24_0 := by unfold px_to; rw [pu_b24]; rfl
theorem pu_t24_32 : px_to 24 32 = px_c24_32 := by unfold px_to; rw [pu_b24]; rfl
theorem pu_t24_38 : px_to 24 38 = px_c24_38 := by unfold px_to; rw [pu_b24]; rfl
theorem pu_t24_43 : px_to 24 43 = px_c24_43 := by unfold px_to; rw [pu_b24]; rfl
theorem pu_t24_49 : px_to 24 49 = px_c24_49 := by unfold px_to; rw [pu_b24]; rfl
theorem pu_t24_55 : px_to 24 55 = px_c24_55 := by unfold px_to; rw [pu_b24]; rfl
theorem pu_b25 : px_blk 25 = [(0, px_c25_0), (24, px_c25_24), (25, px_c25_25)] := rfl
theorem pu_t25_0 : px_to 25 0 = px_c25_0 := by unfold px_to; rw [pu_b25]; rfl
theorem pu_t25_24 : px_to 25 24 = px_c25_24 := by unfold px_to; rw [pu_b25]; rfl
theorem pu_t25_25 : px_to 25 25 = px_c25_25 := by unfold px_to; rw [pu_b25]; rfl
theorem pu_b26 : px_blk 26 = [(0, px_c26_0), (2, px_c26_2), (36, px_c26_36), (42, px_c26_42)] := rfl
theorem pu_t26_0 : px_to 26 0 = px_c26_0 := by unfold px_to; rw [pu_b26]; rfl
theorem pu_t26_2 : px_to 26 2 = px_c26_2 := by unfold px_to; rw [pu_b26]; rfl
theorem pu_t26_36 : px_to 26 36 = px_c26_36 := by unfold px_to; rw [pu_b26]; rfl
theorem pu_t26_42 : px_to 26 42 = px_c26_42 := by unfold px_to; rw [pu_b26]; rfl
theorem pu_b27 : px_blk 27 = [(0, px_c27_0), (2, px_c27_2), (31, px_c27_31), (37, px_c27_37)] := rfl
theorem pu_t27_0 : px_to 27 0 = px_c27_0 := by unfold px_to; rw [pu_b27]; rfl
theorem pu_t27_2 : px_to 27 2 = px_c27_2 := by unfold px_to; rw [pu_b27]; rfl
theorem pu_t27_31 : px_to 27 31 = px_c27_31 := by unfold px_to; rw [pu_b27]; rfl
theorem pu_t27_37 : px_to 27 37 = px_c27_37 := by unfold px_to; rw [pu_b27]; rfl
theorem pu_b28 : px_blk 28 = [(0, px_c28_0), (15, px_c28_15), (17, px_c28_17), (34, px_c28_34), (66, px_c28_66), (72, px_c28_72)] := rfl
theorem pu_t28_0 : px_to 28 0 = px_c28_0 := by unfold px_to; rw [pu_b28]; rfl
theorem pu_t28_15 : px_to 28 15 = px_c28_15 := by unfold px_to; rw [pu_b28]; rfl
theorem pu_t28_17 : px_to 28 17 = px_c28_17 := by unfold px_to; rw [pu_b28]; rfl
theorem pu_t28_34 : px_to 28 34 = px_c28_34 := by unfold px_to; rw [pu_b28]; rfl
theorem pu_t28_66 : px_to 28 66 = px_c28_66 := by unfold px_to; rw [pu_b28]; rfl
theorem pu_t28_72 : px_to 28 72 = px_c28_72 := by unfold px_to; rw [pu_b28]; rfl
theorem pu_b29 : px_blk 29 = [(0, px_c29_0), (2, px_c29_2), (39, px_c29_39), (40, px_c29_40), (67, px_c29_67), (73, px_c29_73)] := rfl
theorem pu_t29_0 : px_to 29 0 = px_c29_0 := by unfold px_to; rw [pu_b29]; rfl
theorem pu_t29_2 : px_to 29 2 = px_c29_2 := by unfold px_to; rw [pu_b29]; rfl
theorem pu_t29_39 : px_to 29 39 = px_c29_39 := by unfold px_to; rw [pu_b29]; rfl
theorem pu_t29_40 : px_to 29 40 = px_c29_40 := by unfold px_to; rw [pu_b29]; rfl
theorem pu_t29_67 : px_to 29 67 = px_c29_67 := by unfold px_to; rw [pu_b29]; rfl
theorem pu_t29_73 : px_to 29 73 = px_c29_73 := by unfold px_to; rw [pu_b29]; rfl
theorem pu_b30 : px_blk 30 = [(0, px_c30_0), (6, px_c30_6), (26, px_c30_26), (41, px_c30_41), (50, px_c30_50), (56, px_c30_56)] := rfl
theorem pu_t30_0 : px_to 30 0 = px_c30_0 := by unfold px_to; rw [pu_b30]; rfl
theorem pu_t30_6 : px_to 30 6 = px_c30_6 := by unfold px_to; rw [pu_b30]; rfl
theorem pu_t30_26 : px_to 30 26 = px_c30_26 := by unfold px_to; rw [pu_b30]; rfl
theorem pu_t30_41 : px_to 30 41 = px_c30_41 := by unfold px_to; rw [pu_b30]; rfl
theorem pu_t30_50 : px_to 30 50 = px_c30_50 := by unfold px_to; rw [pu_b30]; rfl
theorem pu_t30_56 : px_to 30 56 = px_c30_56 := by unfold px_to; rw [pu_b30]; rfl
theorem pu_b32 : px_blk 32 = [(0, px_c32_0), (13, px_c32_13), (14, px_c32_14)] := rfl
theorem pu_t32_0 : px_to 32 0 = px_c32_0 := by unfold px_to; rw [pu_b32]; rfl
theorem pu_t32_13 : px_to 32 13 = px_c32_13 := by unfold px_to; rw [pu_b32]; rfl
theorem pu_t32_14 : px_to 32 14 = px_c32_14 := by unfold px_to; rw [pu_b32]; rfl
theorem pu_b33 : px_blk 33 = [(0, px_c33_0), (20, px_c33_20), (21, px_c33_21)] := rfl
theorem pu_t33_0 : px_to 33 0 = px_c33_0 := by unfold px_to; rw [pu_b33]; rfl
theorem pu_t33_20 : px_to 33 20 = px_c33_20 := by unfold px_to; rw [pu_b33]; rfl
theorem pu_t33_21 : px_to 33 21 = px_c33_21 := by unfold px_to; rw [pu_b33]; rfl
theorem pu_b34 : px_blk 34 = [(0, px_c34_0)] := rfl
theorem pu_t34_0 : px_to 34 0 = px_c34_0 := by unfold px_to; rw [pu_b34]; rfl
theorem pu_b35 : px_blk 35 = [(0, px_c35_0)] := rfl
theorem pu_t35_0 : px_to 35 0 = px_c35_0 := by unfold px_to; rw [pu_b35]; rfl
theorem pu_b36 : px_blk 36 = [(0, px_c36_0), (21, px_c36_21), (25, px_c36_25), (26, px_c36_26), (48, px_c36_48), (49, px_c36_49)] := rfl
theorem pu_t36_0 : px_to 36 0 = px_c36_0 := by unfold px_to; rw [pu_b36]; rfl
theorem pu_t36_21 : px_to 36 21 = px_c36_21 := by unfold px_to; rw [pu_b36]; rfl
theorem pu_t36_25 : px_to 36 25 = px_c36_25 := by unfold px_to; rw [pu_b36]; rfl
theorem pu_t36_26 : px_to 36 26 = px_c36_26 := by unfold px_to; rw [pu_b36]; rfl
theorem pu_t36_48 : px_to 36 48 = px_c36_48 := by unfold px_to; rw [pu_b36]; rfl
theorem pu_t36_49 : px_to 36 49 = px_c36_49 := by unfold px_to; rw [pu_b36]; rfl
theorem pu_b37 : px_blk 37 = [(0, px_c37_0), (16, px_c37_16), (17, px_c37_17)] := rfl
theorem pu_t37_0 : px_to 37 0 = px_c37_0 := by unfold px_to; rw [pu_b37]; rfl
theorem pu_t37_16 : px_to 37 16 = px_c37_16 := by unfold px_to; rw [pu_b37]; rfl
theorem pu_t37_17 : px_to 37 17 = px_c37_17 := by unfold px_to; rw [pu_b37]; rfl
theorem pu_b38 : px_blk 38 = [(0, px_c38_0), (26, px_c38_26), (27, px_c38_27)] := rfl
theorem pu_t38_0 : px_to 38 0 = px_c38_0 := by unfold px_to; rw [pu_b38]; rfl
theorem pu_t38_26 : px_to 38 26 = px_c38_26 := by unfold px_to; rw [pu_b38]; rfl
theorem pu_t38_27 : px_to 38 27 = px_c38_27 := by unfold px_to; rw [pu_b38]; rfl
theorem pu_b39 : px_blk 39 = [(0, px_c39_0), (21, px_c39_21), (22, px_c39_22)] := rfl
theorem pu_t39_0 : px_to 39 0 = px_c39_0 := by unfold px_to; rw [pu_b39]; rfl
theorem pu_t39_21 : px_to 39 21 = px_c39_21 := by unfold px_to; rw [pu_b39]; rfl
theorem pu_t39_22 : px_to 39 22 = px_c39_22 := by unfold px_to; rw [pu_b39]; rfl
theorem pu_b40 : px_blk 40 = [(0, px_c40_0)] := rfl
theorem pu_t40_0 : px_to 40 0 = px_c40_0 := by unfold px_to; rw [pu_b40]; rfl
theorem pu_b41 : px_blk 41 = [(0, px_c41_0), (19, px_c41_19)] := rfl
theorem pu_t41_0 : px_to 41 0 = px_c41_0 := by unfold px_to; rw [pu_b41]; rfl
theorem pu_t41_19 : px_to 41 19 = px_c41_19 := by unfold px_to; rw [pu_b41]; rfl
theorem pu_b42 : px_blk 42 = [(0, px_c42_0), (32, px_c42_32), (37, px_c42_37), (42, px_c42_42), (46, px_c42_46)] := rfl
theorem pu_t42_0 : px_to 42 0 = px_c42_0 := by unfold px_to; rw [pu_b42]; rfl
theorem pu_t42_32 : px_to 42 32 = px_c42_32 := by unfold px_to; rw [pu_b42]; rfl
theorem pu_t42_37 : px_to 42 37 = px_c42_37 := by unfold px_to; rw [pu_b42]; rfl
theorem pu_t42_42 : px_to 42 42 = px_c42_42 := by unfold px_to; rw [pu_b42]; rfl
theorem pu_t42_46 : px_to 42 46 = px_c42_46 := by unfold px_to; rw [pu_b42]; rfl
theorem pu_b43 : px_blk 43 = [(0, px_c43_0), (12, px_c43_12), (17, px_c43_17), (38, px_c43_38), (42, px_c43_42), (43, px_c43_43)] := rfl
theorem pu_t43_0 : px_to 43 0 = px_c43_0 := by unfold px_to; rw [pu_b43]; rfl
theorem pu_t43_12 : px_to 43 12 = px_c43_12 := by unfold px_to; rw [pu_b43]; rfl
theorem pu_t43_17 : px_to 43 17 = px_c43_17 := by unfold px_to; rw [pu_b43]; rfl
theorem pu_t43_38 : px_to 43 38 = px_c43_38 := by unfold px_to; rw [pu_b43]; rfl
theorem pu_t43_42 : px_to 43 42 = px_c43_42 := by unfold px_to; rw [pu_b43]; rfl
theorem pu_t43_43 : px_to 43 43 = px_c43_43 := by unfold px_to; rw [pu_b43]; rfl
theorem pu_b44 : px_blk 44 = [(0, px_c44_0), (20, px_c44_20), (21, px_c44_21)] := rfl
theorem pu_t44_0 : px_to 44 0 = px_c44_0 := by unfold px_to; rw [pu_b44]; rfl
theorem pu_t44_20 : px_to 44 20 = px_c44_20 := by unfold px_to; rw [pu_b44]; rfl
theorem pu_t44_21 : px_to 44 21 = px_c44_21 := by unfold px_to; rw [pu_b44]; rfl
theorem pu_b46 : px_blk 46 = [(0, px_c46_0)] := rfl
theorem pu_t46_0 : px_to 46 0 = px_c46_0 := by unfold px_to; rw [pu_b46]; rfl
theorem pu_b47 : px_blk 47 = [(0, px_c47_0), (16, px_c47_16), (20, px_c47_20), (21, px_c47_21)] := rfl
theorem pu_t47_0 : px_to 47 0 = px_c47_0 := by unfold px_to; rw [pu_b47]; rfl
theorem pu_t47_16 : px_to 47 16 = px_c47_16 := by unfold px_to; rw [pu_b47]; rfl
theorem pu_t47_20 : px_to 47 20 = px_c47_20 := by unfold px_to; rw [pu_b47]; rfl
theorem pu_t47_21 : px_to 47 21 = px_c47_21 := by unfold px_to; rw [pu_b47]; rfl
theorem pu_b48 : px_blk 48 = [(0, px_c48_0), (16, px_c48_16), (17, px_c48_17), (34, px_c48_34), (58, px_c48_58), (79, px_c48_79)] := rfl
theorem pu_t48_0 : px_to 48 0 = px_c48_0 := by unfold px_to; rw [pu_b48]; rfl
theorem pu_t48_16 : px_to 48 16 = px_c48_16 := by unfold px_to; rw [pu_b48]; rfl
theorem pu_t48_17 : px_to 48 17 = px_c48_17 := by unfold px_to; rw [pu_b48]; rfl
theorem pu_t48_34 : px_to 48 34 = px_c48_34 := by unfold px_to; rw [pu_b48]; rfl
theorem pu_t48_58 : px_to 48 58 = px_c48_58 := by unfold px_to; rw [pu_b48]; rfl
theorem pu_t48_79 : px_to 48 79 = px_c48_79 := by unfold px_to; rw [pu_b48]; rfl
theorem pu_b49 : px_blk 49 = [(0, px_c49_0), (40, px_c49_40), (45, px_c49_45), (50, px_c49_50), (55, px_c49_55), (60, px_c49_60), (65, px_c49_65), (70, px_c49_70)] := rfl
theorem pu_t49_0 : px_to 49 0 = px_c49_0 := by unfold px_to; rw [pu_b49]; rfl
theorem pu_t49_40 : px_to 49 40 = px_c49_40 := by unfold px_to; rw [pu_b49]; rfl
theorem pu_t49_45 : px_to 49 45 = px_c49_45 := by unfold px_to; rw [pu_b49]; rfl
theorem pu_t49_50 : px_to 49 50 = px_c49_50 := by unfold px_to; rw [pu_b49]; rfl
theorem pu_t49_55 : px_to 49 55 = px_c49_55 := by unfold px_to; rw [pu_b49]; rfl
theorem pu_t49_60 : px_to 49 60 = px_c49_60 := by unfold px_to; rw [pu_b49]; rfl
theorem pu_t49_65 : px_to 49 65 = px_c49_65 := by unfold px_to; rw [pu_b49]; rfl
theorem pu_t49_70 : px_to 49 70 = px_c49_70 := by unfold px_to; rw [pu_b49]; rfl
theorem pu_b50 : px_blk 50 = [(0, px_c50_0), (2, px_c50_2), (28, px_c50_28), (34, px_c50_34)] := rfl
theorem pu_t50_0 : px_to 50 0 = px_c50_0 := by unfold px_to; rw [pu_b50]; rfl
theorem pu_t50_2 : px_to 50 2 = px_c50_2 := by unfold px_to; rw [pu_b50]; rfl
theorem pu_t50_28 : px_to 50 28 = px_c50_28 := by unfold px_to; rw [pu_b50]; rfl
theorem pu_t50_34 : px_to 50 34 = px_c50_34 := by unfold px_to; rw [pu_b50]; rfl
theorem pu_b51 : px_blk 51 = [(0, px_c51_0), (21, px_c51_21), (22, px_c51_22)] := rfl
theorem pu_t51_0 : px_to 51 0 = px_c51_0 := by unfold px_to; rw [pu_b51]; rfl
theorem pu_t51_21 : px_to 51 21 = px_c51_21 := by unfold px_to; rw [pu_b51]; rfl
theorem pu_t51_22 : px_to 51 22 = px_c51_22 := by unfold px_to; rw [pu_b51]; rfl
theorem pu_b52 : px_blk 52 = [(0, px_c52_0), (17, px_c52_17), (18, px_c52_18)] := rfl
theorem pu_t52_0 : px_to 52 0 = px_c52_0 := by unfold px_to; rw [pu_b52]; rfl
theorem pu_t52_17 : px_to 52 17 = px_c52_17 := by unfold px_to; rw [pu_b52]; rfl
theorem pu_t52_18 : px_to 52 18 = px_c52_18 := by unfold px_to; rw [pu_b52]; rfl
theorem pu_b53 : px_blk 53 = [(0, px_c53_0), (17, px_c53_17), (18, px_c53_18)] := rfl
theorem pu_t53_0 : px_to 53 0 = px_c53_0 := by unfold px_to; rw [pu_b53]; rfl
theorem pu_t53_17 : px_to 53 17 = px_c53_17 := by unfold px_to; rw [pu_b53]; rfl
theorem pu_t53_18 : px_to 53 18 = px_c53_18 := by unfold px_to; rw [pu_b53]; rfl
theorem pu_b54 : px_blk 54 = [(0, px_c54_0)] := rfl
theorem pu_t54_0 : px_to 54 0 = px_c54_0 := by unfold px_to; rw [pu_b54]; rfl
theorem pu_b55 : px_blk 55 = [(0, px_c55_0), (4, px_c55_4), (29, px_c55_29), (35, px_c55_35)] := rfl
theorem pu_t55_0 : px_to 55 0 = px_c55_0 := by unfold px_to; rw [pu_b55]; rfl
theorem pu_t55_4 : px_to 55 4 = px_c55_4 := by unfold px_to; rw [pu_b55]; rfl
theorem pu_t55_29 : px_to 55 29 = px_c55_29 := by unfold px_to; rw [pu_b55]; rfl
theorem pu_t55_35 : px_to 55 35 = px_c55_35 := by unfold px_to; rw [pu_b55]; rfl
theorem pu_b56 : px_blk 56 = [(0, px_c56_0), (4, px_c56_4), (37, px_c56_37), (43, px_c56_43)] := rfl
theorem pu_t56_0 : px_to 56 0 = px_c56_0 := by unfold px_to; rw [pu_b56]; rfl
theorem pu_t56_4 : px_to 56 4 = px_c56_4 := by unfold px_to; rw [pu_b56]; rfl
theorem pu_t56_37 : px_to 56 37 = px_c56_37 := by unfold px_to; rw [pu_b56]; rfl
theorem pu_t56_43 : px_to 56 43 = px_c56_43 := by unfold px_to; rw [pu_b56]; rfl
theorem pu_b57 : px_blk 57 = [(0, px_c57_0), (48, px_c57_48), (59, px_c57_59), (69, px_c57_69), (76, px_c57_76), (83, px_c57_83)] := rfl
theorem pu_t57_0 : px_to 57 0 = px_c57_0 := by unfold px_to; rw [pu_b57]; rfl
theorem pu_t57_48 : px_to 57 48 = px_c57_48 := by unfold px_to; rw [pu_b57]; rfl
theorem pu_t57_59 : px_to 57 59 = px_c57_59 := by unfold px_to; rw [pu_b57]; rfl
theorem pu_t57_69 : px_to 57 69 = px_c57_69 := by unfold px_to; rw [pu_b57]; rfl
theorem pu_t57_76 : px_to 57 76 = px_c57_76 := by unfold px_to; rw [pu_b57]; rfl
theorem pu_t57_83 : px_to 57 83 = px_c57_83 := by unfold px_to; rw [pu_b57]; rfl
theorem pu_b58 : px_blk 58 = [(0, px_c58_0), (4, px_c58_4), (37, px_c58_37), (43, px_c58_43)] := rfl
theorem pu_t58_0 : px_to 58 0 = px_c58_0 := by unfold px_to; rw [pu_b58]; rfl
theorem pu_t58_4 : px_to 58 4 = px_c58_4 := by unfold px_to; rw [pu_b58]; rfl
theorem pu_t58_37 : px_to 58 37 = px_c58_37 := by unfold px_to; rw [pu_b58]; rfl
theorem pu_t58_43 : px_to 58 43 = px_c58_43 := by unfold px_to; rw [pu_b58]; rfl
theorem pu_b59 : px_blk 59 = [(0, px_c59_0), (8, px_c59_8), (18, px_c59_18), (84, px_c59_84), (90, px_c59_90), (96, px_c59_96)] := rfl
theorem pu_t59_0 : px_to 59 0 = px_c59_0 := by unfold px_to; rw [pu_b59]; rfl
theorem pu_t59_8 : px_to 59 8 = px_c59_8 := by unfold px_to; rw [pu_b59]; rfl
theorem pu_t59_18 : px_to 59 18 = px_c59_18 := by unfold px_to; rw [pu_b59]; rfl
theorem pu_t59_84 : px_to 59 84 = px_c59_84 := by unfold px_to; rw [pu_b59]; rfl
theorem pu_t59_90 : px_to 59 90 = px_c59_90 := by unfold px_to; rw [pu_b59]; rfl
theorem pu_t59_96 : px_to 59 96 = px_c59_96 := by unfold px_to; rw [pu_b59]; rfl
theorem pu_b60 : px_blk 60 = [(0, px_c60_0), (27, px_c60_27), (43, px_c60_43)] := rfl
theorem pu_t60_0 : px_to 60 0 = px_c60_0 := by unfold px_to; rw [pu_b60]; rfl
theorem pu_t60_27 : px_to 60 27 = px_c60_27 := by unfold px_to; rw [pu_b60]; rfl
theorem pu_t60_43 : px_to 60 43 = px_c60_43 := by unfold px_to; rw [pu_b60]; rfl
theorem pu_b61 : px_blk 61 = [(0, px_c61_0), (10, px_c61_10), (37, px_c61_37), (86, px_c61_86), (111, px_c61_111), (139, px_c61_139)] := rfl
theorem pu_t61_0 : px_to 61 0 = px_c61_0 := by unfold px_to; rw [pu_b61]; rfl
theorem pu_t61_10 : px_to 61 10 = px_c61_10 := by unfold px_to; rw [pu_b61]; rfl
theorem pu_t61_37 : px_to 61 37 = px_c61_37 := by unfold px_to; rw [pu_b61]; rfl
theorem pu_t61_86 : px_to 61 86 = px_c61_86 := by unfold px_to; rw [pu_b61]; rfl
theorem pu_t61_111 : px_to 61 111 = px_c61_111 := by unfold px_to; rw [pu_b61]; rfl
theorem pu_t61_139 : px_to 61 139 = px_c61_139 := by unfold px_to; rw [pu_b61]; rfl
theorem pu_b62 : px_blk 62 = [(0, px_c62_0), (32, px_c62_32), (86, px_c62_86), (92, px_c62_92)] := rfl
theorem pu_t62_0 : px_to 62 0 = px_c62_0 := by unfold px_to; rw [pu_b62]; rfl
theorem pu_t62_32 : px_to 62 32 = px_c62_32 := by unfold px_to; rw [pu_b62]; rfl
theorem pu_t62_86 : px_to 62 86 = px_c62_86 := by unfold px_to; rw [pu_b62]; rfl
theorem pu_t62_92 : px_to 62 92 = px_c62_92 := by unfold px_to; rw [pu_b62]; rfl
theorem pu_b63 : px_blk 63 = [(0, px_c63_0), (30, px_c63_30), (32, px_c63_32)] := rfl
theorem pu_t63_0 : px_to 63 0 = px_c63_0 := by unfold px_to; rw [pu_b63]; rfl
theorem pu_t63_30 : px_to 63 30 = px_c63_30 := by unfold px_to; rw [pu_b63]; rfl
theorem pu_t63_32 : px_to 63 32 = px_c63_32 := by unfold px_to; rw [pu_b63]; rfl
theorem pu_b64 : px_blk 64 = [(0, px_c64_0), (6, px_c64_6), (42, px_c64_42), (48, px_c64_48)] := rfl
theorem pu_t64_0 : px_to 64 0 = px_c64_0 := by unfold px_to; rw [pu_b64]; rfl
theorem pu_t64_6 : px_to 64 6 = px_c64_6 := by unfold px_to; rw [pu_b64]; rfl
theorem pu_t64_42 : px_to 64 42 = px_c64_42 := by unfold px_to; rw [pu_b64]; rfl
theorem pu_t64_48 : px_to 64 48 = px_c64_48 := by unfold px_to; rw [pu_b64]; rfl
theorem pu_b65 : px_blk 65 = [(0, px_c65_0), (6, px_c65_6), (42, px_c65_42), (43, px_c65_43), (76, px_c65_76), (82, px_c65_82)] := rfl
theorem pu_t65_0 : px_to 65 0 = px_c65_0 := by unfold px_to; rw [pu_b65]; rfl
theorem pu_t65_6 : px_to 65 6 = px_c65_6 := by unfold px_to; rw [pu_b65]; rfl
theorem pu_t65_42 : px_to 65 42 = px_c65_42 := by unfold px_to; rw [pu_b65]; rfl
theorem pu_t65_43 : px_to 65 43 = px_c65_43 := by unfold px_to; rw [pu_b65]; rfl
theorem pu_t65_76 : px_to 65 76 = px_c65_76 := by unfold px_to; rw [pu_b65]; rfl
theorem pu_t65_82 : px_to 65 82 = px_c65_82 := by unfold px_to; rw [pu_b65]; rfl
theorem pu_b66 : px_blk 66 = [(0, px_c66_0), (9, px_c66_9), (43, px_c66_43), (44, px_c66_44), (61, px_c66_61), (67, px_c66_67)] := rfl
theorem pu_t66_0 : px_to 66 0 = px_c66_0 := by unfold px_to; rw [pu_b66]; rfl
theorem pu_t66_9 : px_to 66 9 = px_c66_9 := by unfold px_to; rw [pu_b66]; rfl
theorem pu_t66_43 : px_to 66 43 = px_c66_43 := by unfold px_to; rw [pu_b66]; rfl
theorem pu_t66_44 : px_to 66 44 = px_c66_44 := by unfold px_to; rw [pu_b66]; rfl
theorem pu_t66_61 : px_to 66 61 = px_c66_61 := by unfold px_to; rw [pu_b66]; rfl
theorem pu_t66_67 : px_to 66 67 = px_c66_67 := by unfold px_to; rw [pu_b66]; rfl
theorem pu_b67 : px_blk 67 = [(0, px_c67_0), (36, px_c67_36), (38, px_c67_38), (88, px_c67_88), (91, px_c67_91), (96, px_c67_96), (101, px_c67_101)] := rfl
theorem pu_t67_0 : px_to 67 0 = px_c67_0 := by unfold px_to; rw [pu_b67]; rfl
theorem pu_t67_36 : px_to 67 36 = px_c67_36 := by unfold px_to; rw [pu_b67]; rfl
theorem pu_t67_38 : px_to 67 38 = px_c67_38 := by unfold px_to; rw [pu_b67]; rfl
theorem pu_t67_88 : px_to 67 88 = px_c67_88 := by unfold px_to; rw [pu_b67]; rfl
theorem pu_t67_91 : px_to 67 91 = px_c67_91 := by unfold px_to; rw [pu_b67]; rfl
theorem pu_t67_96 : px_to 67 96 = px_c67_96 := by unfold px_to; rw [pu_b67]; rfl
theorem pu_t67_101 : px_to 67 101 = px_c67_101 := by unfold px_to; rw [pu_b67]; rfl
theorem pu_b68 : px_blk 68 = [(0, px_c68_0), (5, px_c68_5), (34, px_c68_34)] := rfl
theorem pu_t68_0 : px_to 68 0 = px_c68_0 := by unfold px_to; rw [pu_b68]; rfl
theorem pu_t68_5 : px_to 68 5 = px_c68_5 := by unfold px_to; rw [pu_b68]; rfl
theorem pu_t68_34 : px_to 68 34 = px_c68_34 := by unfold px_to; rw [pu_b68]; rfl
theorem pu_b69 : px_blk 69 = [(0, px_c69_0), (5, px_c69_5), (49, px_c69_49), (55, px_c69_55)] := rfl
theorem pu_t69_0 : px_to 69 0 = px_c69_0 := by unfold px_to; rw [pu_b69]; rfl
theorem pu_t69_5 : px_to 69 5 = px_c69_5 := by unfold px_to; rw [pu_b69]; rfl
theorem pu_t69_49 : px_to 69 49 = px_c69_49 := by unfold px_to; rw [pu_b69]; rfl
theorem pu_t69_55 : px_to 69 55 = px_c69_55 := by unfold px_to; rw [pu_b69]; rfl
theorem pu_b70 : px_blk 70 = [(0, px_c70_0), (4, px_c70_4), (26, px_c70_26), (59, px_c70_59), (63, px_c70_63), (84, px_c70_84), (90, px_c70_90)] := rfl
theorem pu_t70_0 : px_to 70 0 = px_c70_0 := by unfold px_to; rw [pu_b70]; rfl
theorem pu_t70_4 : px_to 70 4 = px_c70_4 := by unfold px_to; rw [pu_b70]; rfl
theorem pu_t70_26 : px_to 70 26 = px_c70_26 := by unfold px_to; rw [pu_b70]; rfl
theorem pu_t70_59 : px_to 70 59 = px_c70_59 := by unfold px_to; rw [pu_b70]; rfl
theorem pu_t70_63 : px_to 70 63 = px_c70_63 := by unfold px_to; rw [pu_b70]; rfl
theorem pu_t70_84 : px_to 70 84 = px_c70_84 := by unfold px_to; rw [pu_b70]; rfl
theorem pu_t70_90 : px_to 70 90 = px_c70_90 := by unfold px_to; rw [pu_b70]; rfl
theorem pu_b71 : px_blk 71 = [(0, px_c71_0), (9, px_c71_9), (33, px_c71_33), (73, px_c71_73), (79, px_c71_79), (88, px_c71_88), (96, px_c71_96)] := rfl
theorem pu_t71_0 : px_to 71 0 = px_c71_0 := by unfold px_to; rw [pu_b71]; rfl
theorem pu_t71_9 : px_to 71 9 = px_c71_9 := by unfold px_to; rw [pu_b71]; rfl
theorem pu_t71_33 : px_to 71 33 = px_c71_33 := by unfold px_to; rw [pu_b71]; rfl
theorem pu_t71_73 : px_to 71 73 = px_c71_73 := by unfold px_to; rw [pu_b71]; rfl
theorem pu_t71_79 : px_to 71 79 = px_c71_79 := by unfold px_to; rw [pu_b71]; rfl
theorem pu_t71_88 : px_to 71 88 = px_c71_88 := by unfold px_to; rw [pu_b71]; rfl
theorem pu_t71_96 : px_to 71 96 = px_c71_96 := by unfold px_to; rw [pu_b71]; rfl
theorem pu_b73 : px_blk 73 = [(0, px_c73_0), (12, px_c73_12), (37, px_c73_37), (60, px_c73_60), (78, px_c73_78), (94, px_c73_94)] := rfl
theorem pu_t73_0 : px_to 73 0 = px_c73_0 := by unfold px_to; rw [pu_b73]; rfl
theorem pu_t73_12 : px_to 73 12 = px_c73_12 := by unfold px_to; rw [pu_b73]; rfl
theorem pu_t73_37 : px_to 73 37 = px_c73_37 := by unfold px_to; rw [pu_b73]; rfl
theorem pu_t73_60 : px_to 73 60 = px_c73_60 := by unfold px_to; rw [pu_b73]; rfl
theorem pu_t73_78 : px_to 73 78 = px_c73_78 := by unfold px_to; rw [pu_b73]; rfl
theorem pu_t73_94 : px_to 73 94 = px_c73_94 := by unfold px_to; rw [pu_b73]; rfl
theorem pu_b74 : px_blk 74 = [(0, px_c74_0), (26, px_c74_26), (31, px_c74_31), (42, px_c74_42), (53, px_c74_53), (82, px_c74_82), (109, px_c74_109), (115, px_c74_115)] := rfl
theorem pu_t74_0 : px_to 74 0 = px_c74_0 := by unfold px_to; rw [pu_b74]; rfl
theorem pu_t74_26 : px_to 74 26 = px_c74_26 := by unfold px_to; rw [pu_b74]; rfl
theorem pu_t74_31 : px_to 74 31 = px_c74_31 := by unfold px_to; rw [pu_b74]; rfl
theorem pu_t74_42 : px_to 74 42 = px_c74_42 := by unfold px_to; rw [pu_b74]; rfl
theorem pu_t74_53 : px_to 74 53 = px_c74_53 := by unfold px_to; rw [pu_b74]; rfl
theorem pu_t74_82 : px_to 74 82 = px_c74_82 := by unfold px_to; rw [pu_b74]; rfl
theorem pu_t74_109 : px_to 74 109 = px_c74_109 := by unfold px_to; rw [pu_b74]; rfl
theorem pu_t74_115 : px_to 74 115 = px_c74_115 := by unfold px_to; rw [pu_b74]; rfl
theorem pu_b75 : px_blk 75 = [(0, px_c75_0), (7, px_c75_7), (55, px_c75_55), (61, px_c75_61)] := rfl
theorem pu_t75_0 : px_to 75 0 = px_c75_0 := by unfold px_to; rw [pu_b75]; rfl
theorem pu_t75_7 : px_to 75 7 = px_c75_7 := by unfold px_to; rw [pu_b75]; rfl
theorem pu_t75_55 : px_to 75 55 = px_c75_55 := by unfold px_to; rw [pu_b75]; rfl
theorem pu_t75_61 : px_to 75 61 = px_c75_61 := by unfold px_to; rw [pu_b75]; rfl
theorem pu_b76 : px_blk 76 = [(0, px_c76_0), (2, px_c76_2), (31, px_c76_31)] := rfl
theorem pu_t76_0 : px_to 76 0 = px_c76_0 := by unfold px_to; rw [pu_b76]; rfl
theorem pu_t76_2 : px_to 76 2 = px_c76_2 := by unfold px_to; rw [pu_b76]; rfl
theorem pu_t76_31 : px_to 76 31 = px_c76_31 := by unfold px_to; rw [pu_b76]; rfl
theorem pu_b77 : px_blk 77 = [(0, px_c77_0), (6, px_c77_6), (57, px_c77_57), (81, px_c77_81), (83, px_c77_83)] := rfl
theorem pu_t77_0 : px_to 77 0 = px_c77_0 := by unfold px_to; rw [pu_b77]; rfl
theorem pu_t77_6 : px_to 77 6 = px_c77_6 := by unfold px_to; rw [pu_b77]; rfl
theorem pu_t77_57 : px_to 77 57 = px_c77_57 := by unfold px_to; rw [pu_b77]; rfl
theorem pu_t77_81 : px_to 77 81 = px_c77_81 := by unfold px_to; rw [pu_b77]; rfl
theorem pu_t77_83 : px_to 77 83 = px_c77_83 := by unfold px_to; rw [pu_b77]; rfl
theorem pu_b78 : px_blk 78 = [(0, px_c78_0), (16, px_c78_16), (17, px_c78_17)] := rfl
theorem pu_t78_0 : px_to 78 0 = px_c78_0 := by unfold px_to; rw [pu_b78]; rfl
theorem pu_t78_16 : px_to 78 16 = px_c78_16 := by unfold px_to; rw [pu_b78]; rfl
theorem pu_t78_17 : px_to 78 17 = px_c78_17 := by unfold px_to; rw [pu_b78]; rfl
theorem pu_b80 : px_blk 80 = [(0, px_c80_0), (15, px_c80_15), (16, px_c80_16)] := rfl
theorem pu_t80_0 : px_to 80 0 = px_c80_0 := by unfold px_to; rw [pu_b80]; rfl
theorem pu_t80_15 : px_to 80 15 = px_c80_15 := by unfold px_to; rw [pu_b80]; rfl
theorem pu_t80_16 : px_to 80 16 = px_c80_16 := by unfold px_to; rw [pu_b80]; rfl
theorem pu_b81 : px_blk 81 = [(0, px_c81_0), (16, px_c81_16), (17, px_c81_17)] := rfl
theorem pu_t81_0 : px_to 81 0 = px_c81_0 := by unfold px_to; rw [pu_b81]; rfl
theorem pu_t81_16 : px_to 81 16 = px_c81_16 := by unfold px_to; rw [pu_b81]; rfl
theorem pu_t81_17 : px_to 81 17 = px_c81_17 := by unfold px_to; rw [pu_b81]; rfl
theorem pu_b82 : px_blk 82 = [(0, px_c82_0), (25, px_c82_25), (26, px_c82_26), (44, px_c82_44), (45, px_c82_45)] := rfl
theorem pu_t82_0 : px_to 82 0 = px_c82_0 := by unfold px_to; rw [pu_b82]; rfl
theorem pu_t82_25 : px_to 82 25 = px_c82_25 := by unfold px_to; rw [pu_b82]; rfl
theorem pu_t82_26 : px_to 82 26 = px_c82_26 := by unfold px_to; rw [pu_b82]; rfl
theorem pu_t82_44 : px_to 82 44 = px_c82_44 := by unfold px_to; rw [pu_b82]; rfl
theorem pu_t82_45 : px_to 82 45 = px_c82_45 := by unfold px_to; rw [pu_b82]; rfl
theorem pu_b83 : px_blk 83 = [(0, px_c83_0), (28, px_c83_28)] := rfl
theorem pu_t83_0 : px_to 83 0 = px_c83_0 := by unfold px_to; rw [pu_b83]; rfl
theorem pu_t83_28 : px_to 83 28 = px_c83_28 := by unfold px_to; rw [pu_b83]; rfl
theorem pu_b84 : px_blk 84 = [(0, px_c84_0), (9, px_c84_9)] := rfl
theorem pu_t84_0 : px_to 84 0 = px_c84_0 := by unfold px_to; rw [pu_b84]; rfl
theorem pu_t84_9 : px_to 84 9 = px_c84_9 := by unfold px_to; rw [pu_b84]; rfl
theorem pu_b85 : px_blk 85 = [(0, px_c85_0)] := rfl
theorem pu_t85_0 : px_to 85 0 = px_c85_0 := by unfold px_to; rw [pu_b85]; rfl
theorem pu_b87 : px_blk 87 = [(0, px_c87_0), (13, px_c87_13), (24, px_c87_24), (33, px_c87_33), (40, px_c87_40), (53, px_c87_53)] := rfl
theorem pu_t87_0 : px_to 87 0 = px_c87_0 := by unfold px_to; rw [pu_b87]; rfl
theorem pu_t87_13 : px_to 87 13 = px_c87_13 := by unfold px_to; rw [pu_b87]; rfl
theorem pu_t87_24 : px_to 87 24 = px_c87_24 := by unfold px_to; rw [pu_b87]; rfl
theorem pu_t87_33 : px_to 87 33 = px_c87_33 := by unfold px_to; rw [pu_b87]; rfl
theorem pu_t87_40 : px_to 87 40 = px_c87_40 := by unfold px_to; rw [pu_b87]; rfl
theorem pu_t87_53 : px_to 87 53 = px_c87_53 := by unfold px_to; rw [pu_b87]; rfl
theorem pu_b88 : px_blk 88 = [(0, px_c88_0), (19, px_c88_19), (39, px_c88_39)] := rfl
theorem pu_t88_0 : px_to 88 0 = px_c88_0 := by unfold px_to; rw [pu_b88]; rfl
theorem pu_t88_19 : px_to 88 19 = px_c88_19 := by unfold px_to; rw [pu_b88]; rfl
theorem pu_t88_39 : px_to 88 39 = px_c88_39 := by unfold px_to; rw [pu_b88]; rfl
theorem pu_b89 : px_blk 89 = [(0, px_c89_0), (14, px_c89_14), (20, px_c89_20), (52, px_c89_52), (59, px_c89_59), (95, px_c89_95), (111, px_c89_111), (118, px_c89_118), (130, px_c89_130), (153, px_c89_153), (160, px_c89_160)] := rfl
theorem pu_t89_0 : px_to 89 0 = px_c89_0 := by unfold px_to; rw [pu_b89]; rfl
theorem pu_t89_14 : px_to 89 14 = px_c89_14 := by unfold px_to; rw [pu_b89]; rfl
theorem pu_t89_20 : px_to 89 20 = px_c89_20 := by unfold px_to; rw [pu_b89]; rfl
theorem pu_t89_52 : px_to 89 52 = px_c89_52 := by unfold px_to; rw [pu_b89]; rfl
theorem pu_t89_59 : px_to 89 59 = px_c89_59 := by unfold px_to; rw [pu_b89]; rfl
theorem pu_t89_95 : px_to 89 95 = px_c89_95 := by unfold px_to; rw [pu_b89]; rfl
theorem pu_t89_111 : px_to 89 111 = px_c89_111 := by unfold px_to; rw [pu_b89]; rfl
theorem pu_t89_118 : px_to 89 118 = px_c89_118 := by unfold px_to; rw [pu_b89]; rfl
theorem pu_t89_130 : px_to 89 130 = px_c89_130 := by unfold px_to; rw [pu_b89]; rfl
theorem pu_t89_153 : px_to 89 153 = px_c89_153 := by unfold px_to; rw [pu_b89]; rfl
theorem pu_t89_160 : px_to 89 160 = px_c89_160 := by unfold px_to; rw [pu_b89]; rfl
theorem pu_b90 : px_blk 90 = [(0, px_c90_0), (19, px_c90_19), (21, px_c90_21)] := rfl
theorem pu_t90_0 : px_to 90 0 = px_c90_0 := by unfold px_to; rw [pu_b90]; rfl
theorem pu_t90_19 : px_to 90 19 = px_c90_19 := by unfold px_to; rw [pu_b90]; rfl
theorem pu_t90_21 : px_to 90 21 = px_c90_21 := by unfold px_to; rw [pu_b90]; rfl
theorem pu_b91 : px_blk 91 = [(0, px_c91_0), (18, px_c91_18), (24, px_c91_24), (40, px_c91_40), (55, px_c91_55)] := rfl
theorem pu_t91_0 : px_to 91 0 = px_c91_0 := by unfold px_to; rw [pu_b91]; rfl
theorem pu_t91_18 : px_to 91 18 = px_c91_18 := by unfold px_to; rw [pu_b91]; rfl
theorem pu_t91_24 : px_to 91 24 = px_c91_24 := by unfold px_to; rw [pu_b91]; rfl
theorem pu_t91_40 : px_to 91 40 = px_c91_40 := by unfold px_to; rw [pu_b91]; rfl
theorem pu_t91_55 : px_to 91 55 = px_c91_55 := by unfold px_to; rw [pu_b91]; rfl
theorem pu_b92 : px_blk 92 = [(0, px_c92_0), (19, px_c92_19), (20, px_c92_20)] := rfl
theorem pu_t92_0 : px_to 92 0 = px_c92_0 := by unfold px_to; rw [pu_b92]; rfl
theorem pu_t92_19 : px_to 92 19 = px_c92_19 := by unfold px_to; rw [pu_b92]; rfl
theorem pu_t92_20 : px_to 92 20 = px_c92_20 := by unfold px_to; rw [pu_b92]; rfl
theorem pu_b93 : px_blk 93 = [(0, px_c93_0), (10, px_c93_10), (16, px_c93_16), (32, px_c93_32), (56, px_c93_56), (92, px_c93_92), (105, px_c93_105), (115, px_c93_115), (121, px_c93_121)] := rfl
theorem pu_t93_0 : px_to 93 0 = px_c93_0 := by unfold px_to; rw [pu_b93]; rfl
theorem pu_t93_10 : px_to 93 10 = px_c93_10 := by unfold px_to; rw [pu_b93]; rfl
theorem pu_t93_16 : px_to 93 16 = px_c93_16 := by unfold px_to; rw [pu_b93]; rfl
theorem pu_t93_32 : px_to 93 32 = px_c93_32 := by unfold px_to; rw [pu_b93]; rfl
theorem pu_t93_56 : px_to 93 56 = px_c93_56 := by unfold px_to; rw [pu_b93]; rfl
theorem pu_t93_92 : px_to 93 92 = px_c93_92 := by unfold px_to; rw [pu_b93]; rfl
theorem pu_t93_105 : px_to 93 105 = px_c93_105 := by unfold px_to; rw [pu_b93]; rfl
theorem pu_t93_115 : px_to 93 115 = px_c93_115 := by unfold px_to; rw [pu_b93]; rfl
theorem pu_t93_121 : px_to 93 121 = px_c93_121 := by unfold px_to; rw [pu_b93]; rfl
theorem pu_b94 : px_blk 94 = [(0, px_c94_0), (18, px_c94_18), (25, px_c94_25), (44, px_c94_44), (51, px_c94_51), (71, px_c94_71)] := rfl
theorem pu_t94_0 : px_to 94 0 = px_c94_0 := by unfold px_to; rw [pu_b94]; rfl
theorem pu_t94_18 : px_to 94 18 = px_c94_18 := by unfold px_to; rw [pu_b94]; rfl
theorem pu_t94_25 : px_to 94 25 = px_c94_25 := by unfold px_to; rw [pu_b94]; rfl
theorem pu_t94_44 : px_to 94 44 = px_c94_44 := by unfold px_to; rw [pu_b94]; rfl
theorem pu_t94_51 : px_to 94 51 = px_c94_51 := by unfold px_to; rw [pu_b94]; rfl
theorem pu_t94_71 : px_to 94 71 = px_c94_71 := by unfold px_to; rw [pu_b94]; rfl
theorem pu_b95 : px_blk 95 = [(0, px_c95_0), (13, px_c95_13), (29, px_c95_29), (49, px_c95_49)] := rfl
theorem pu_t95_0 : px_to 95 0 = px_c95_0 := by unfold px_to; rw [pu_b95]; rfl
theorem pu_t95_13 : px_to 95 13 = px_c95_13 := by unfold px_to; rw [pu_b95]; rfl
theorem pu_t95_29 : px_to 95 29 = px_c95_29 := by unfold px_to; rw [pu_b95]; rfl
theorem pu_t95_49 : px_to 95 49 = px_c95_49 := by unfold px_to; rw [pu_b95]; rfl
theorem pu_b96 : px_blk 96 = [(0, px_c96_0), (16, px_c96_16), (22, px_c96_22), (36, px_c96_36), (51, px_c96_51), (58, px_c96_58), (73, px_c96_73)] := rfl
theorem pu_t96_0 : px_to 96 0 = px_c96_0 := by unfold px_to; rw [pu_b96]; rfl
theorem pu_t96_16 : px_to 96 16 = px_c96_16 := by unfold px_to; rw [pu_b96]; rfl
theorem pu_t96_22 : px_to 96 22 = px_c96_22 := by unfold px_to; rw [pu_b96]; rfl
theorem pu_t96_36 : px_to 96 36 = px_c96_36 := by unfold px_to; rw [pu_b96]; rfl
theorem pu_t96_51 : px_to 96 51 = px_c96_51 := by unfold px_to; rw [pu_b96]; rfl
theorem pu_t96_58 : px_to 96 58 = px_c96_58 := by unfold px_to; rw [pu_b96]; rfl
theorem pu_t96_73 : px_to 96 73 = px_c96_73 := by unfold px_to; rw [pu_b96]; rfl
theorem pu_b97 : px_blk 97 = [(0, px_c97_0), (13, px_c97_13), (30, px_c97_30), (50, px_c97_50)] := rfl
theorem pu_t97_0 : px_to 97 0 = px_c97_0 := by unfold px_to; rw [pu_b97]; rfl
theorem pu_t97_13 : px_to 97 13 = px_c97_13 := by unfold px_to; rw [pu_b97]; rfl
theorem pu_t97_30 : px_to 97 30 = px_c97_30 := by unfold px_to; rw [pu_b97]; rfl
theorem pu_t97_50 : px_to 97 50 = px_c97_50 := by unfold px_to; rw [pu_b97]; rfl
theorem pu_b98 : px_blk 98 = [(0, px_c98_0), (13, px_c98_13), (33, px_c98_33), (40, px_c98_40), (60, px_c98_60)] := rfl
theorem pu_t98_0 : px_to 98 0 = px_c98_0 := by unfold px_to; rw [pu_b98]; rfl
theorem pu_t98_13 : px_to 98 13 = px_c98_13 := by unfold px_to; rw [pu_b98]; rfl
theorem pu_t98_33 : px_to 98 33 = px_c98_33 := by unfold px_to; rw [pu_b98]; rfl
theorem pu_t98_40 : px_to 98 40 = px_c98_40 := by unfold px_to; rw [pu_b98]; rfl
theorem pu_t98_60 : px_to 98 60 = px_c98_60 := by unfold px_to; rw [pu_b98]; rfl
theorem pu_b99 : px_blk 99 = [(0, px_c99_0), (18, px_c99_18), (25, px_c99_25)] := rfl
theorem pu_t99_0 : px_to 99 0 = px_c99_0 := by unfold px_to; rw [pu_b99]; rfl
theorem pu_t99_18 : px_to 99 18 = px_c99_18 := by unfold px_to; rw [pu_b99]; rfl
theorem pu_t99_25 : px_to 99 25 = px_c99_25 := by unfold px_to; rw [pu_b99]; rfl
theorem pu_b100 : px_blk 100 = [(0, px_c100_0), (16, px_c100_16), (63, px_c100_63)] := rfl
theorem pu_t100_0 : px_to 100 0 = px_c100_0 := by unfold px_to; rw [pu_b100]; rfl
theorem pu_t100_16 : px_to 100 16 = px_c100_16 := by unfold px_to; rw [pu_b100]; rfl
theorem pu_t100_63 : px_to 100 63 = px_c100_63 := by unfold px_to; rw [pu_b100]; rfl
theorem pu_b101 : px_blk 101 = [(0, px_c101_0)] := rfl
theorem pu_t101_0 : px_to 101 0 = px_c101_0 := by unfold px_to; rw [pu_b101]; rfl
theorem pu_b102 : px_blk 102 = [(0, px_c102_0), (23, px_c102_23), (30, px_c102_30)] := rfl
theorem pu_t102_0 : px_to 102 0 = px_c102_0 := by unfold px_to; rw [pu_b102]; rfl
theorem pu_t102_23 : px_to 102 23 = px_c102_23 := by unfold px_to; rw [pu_b102]; rfl
theorem pu_t102_30 : px_to 102 30 = px_c102_30 := by unfold px_to; rw [pu_b102]; rfl
theorem pu_b103 : px_blk 103 = [(0, px_c103_0), (23, px_c103_23), (30, px_c103_30)] := rfl
theorem pu_t103_0 : px_to 103 0 = px_c103_0 := by unfold px_to; rw [pu_b103]; rfl
theorem pu_t103_23 : px_to 103 23 = px_c103_23 := by unfold px_to; rw [pu_b103]; rfl
theorem pu_t103_30 : px_to 103 30 = px_c103_30 := by unfold px_to; rw [pu_b103]; rfl
theorem pu_b104 : px_blk 104 = [(0, px_c104_0), (33, px_c104_33), (37, px_c104_37), (38, px_c104_38), (49, px_c104_49)] := rfl
theorem pu_t104_0 : px_to 104 0 = px_c104_0 := by unfold px_to; rw [pu_b104]; rfl
theorem pu_t104_33 : px_to 104 33 = px_c104_33 := by unfold px_to; rw [pu_b104]; rfl
theorem pu_t104_37 : px_to 104 37 = px_c104_37 := by unfold px_to; rw [pu_b104]; rfl
theorem pu_t104_38 : px_to 104 38 = px_c104_38 := by unfold px_to; rw [pu_b104]; rfl
theorem pu_t104_49 : px_to 104 49 = px_c104_49 := by unfold px_to; rw [pu_b104]; rfl
theorem pu_b105 : px_blk 105 = [(0, px_c105_0), (20, px_c105_20), (38, px_c105_38), (64, px_c105_64), (65, px_c105_65), (77, px_c105_77), (78, px_c105_78)] := rfl
theorem pu_t105_0 : px_to 105 0 = px_c105_0 := by unfold px_to; rw [pu_b105]; rfl
theorem pu_t105_20 : px_to 105 20 = px_c105_20 := by unfold px_to; rw [pu_b105]; rfl
theorem pu_t105_38 : px_to 105 38 = px_c105_38 := by unfold px_to; rw [pu_b105]; rfl
theorem pu_t105_64 : px_to 105 64 = px_c105_64 := by unfold px_to; rw [pu_b105]; rfl
theorem pu_t105_65 : px_to 105 65 = px_c105_65 := by unfold px_to; rw [pu_b105]; rfl
theorem pu_t105_77 : px_to 105 77 = px_c105_77 := by unfold px_to; rw [pu_b105]; rfl
theorem pu_t105_78 : px_to 105 78 = px_c105_78 := by unfold px_to; rw [pu_b105]; rfl
theorem pu_b106 : px_blk 106 = [(0, px_c106_0), (25, px_c106_25), (26, px_c106_26), (43, px_c106_43)] := rfl
theorem pu_t106_0 : px_to 106 0 = px_c106_0 := by unfold px_to; rw [pu_b106]; rfl
theorem pu_t106_25 : px_to 106 25 = px_c106_25 := by unfold px_to; rw [pu_b106]; rfl
theorem pu_t106_26 : px_to 106 26 = px_c106_26 := by unfold px_to; rw [pu_b106]; rfl
theorem pu_t106_43 : px_to 106 43 = px_c106_43 := by unfold px_to; rw [pu_b106]; rfl
theorem pu_b107 : px_blk 107 = [(0, px_c107_0), (25, px_c107_25), (26, px_c107_26), (43, px_c107_43)] := rfl
theorem pu_t107_0 : px_to 107 0 = px_c107_0 := by unfold px_to; rw [pu_b107]; rfl
theorem pu_t107_25 : px_to 107 25 = px_c107_25 := by unfold px_to; rw [pu_b107]; rfl
theorem pu_t107_26 : px_to 107 26 = px_c107_26 := by unfold px_to; rw [pu_b107]; rfl
theorem pu_t107_43 : px_to 107 43 = px_c107_43 := by unfold px_to; rw [pu_b107]; rfl
theorem pu_b108 : px_blk 108 = [(0, px_c108_0), (21, px_c108_21), (22, px_c108_22), (39, px_c108_39)] := rfl
theorem pu_t108_0 : px_to 108 0 = px_c108_0 := by unfold px_to; rw [pu_b108]; rfl
theorem pu_t108_21 : px_to 108 21 = px_c108_21 := by unfold px_to; rw [pu_b108]; rfl
theorem pu_t108_22 : px_to 108 22 = px_c108_22 := by unfold px_to; rw [pu_b108]; rfl
theorem pu_t108_39 : px_to 108 39 = px_c108_39 := by unfold px_to; rw [pu_b108]; rfl
theorem pu_b109 : px_blk 109 = [(0, px_c109_0), (21, px_c109_21), (22, px_c109_22), (39, px_c109_39), (62, px_c109_62), (75, px_c109_75)] := rfl
theorem pu_t109_0 : px_to 109 0 = px_c109_0 := by unfold px_to; rw [pu_b109]; rfl
theorem pu_t109_21 : px_to 109 21 = px_c109_21 := by unfold px_to; rw [pu_b109]; rfl
theorem pu_t109_22 : px_to 109 22 = px_c109_22 := by unfold px_to; rw [pu_b109]; rfl
theorem pu_t109_39 : px_to 109 39 = px_c109_39 := by unfold px_to; rw [pu_b109]; rfl
theorem pu_t109_62 : px_to 109 62 = px_c109_62 := by unfold px_to; rw [pu_b109]; rfl
theorem pu_t109_75 : px_to 109 75 = px_c109_75 := by unfold px_to; rw [pu_b109]; rfl
theorem pu_b110 : px_blk 110 = [(0, px_c110_0), (25, px_c110_25), (31, px_c110_31)] := rfl
theorem pu_t110_0 : px_to 110 0 = px_c110_0 := by unfold px_to; rw [pu_b110]; rfl
theorem pu_t110_25 : px_to 110 25 = px_c110_25 := by unfold px_to; rw [pu_b110]; rfl
theorem pu_t110_31 : px_to 110 31 = px_c110_31 := by unfold px_to; rw [pu_b110]; rfl
theorem pu_b111 : px_blk 111 = [(0, px_c111_0)] := rfl
theorem pu_t111_0 : px_to 111 0 = px_c111_0 := by unfold px_to; rw [pu_b111]; rfl
theorem pu_b112 : px_blk 112 = [(0, px_c112_0)] := rfl
theorem pu_t112_0 : px_to 112 0 = px_c112_0 := by unfold px_to; rw [pu_b112]; rfl
theorem pu_b113 : px_blk 113 = [(0, px_c113_0)] := rfl
theorem pu_t113_0 : px_to 113 0 = px_c113_0 := by unfold px_to; rw [pu_b113]; rfl
theorem pu_b114 : px_blk 114 = [(0, px_c114_0), (20, px_c114_20), (34, px_c114_34)] := rfl
theorem pu_t114_0 : px_to 114 0 = px_c114_0 := by unfold px_to; rw [pu_b114]; rfl
theorem pu_t114_20 : px_to 114 20 = px_c114_20 := by unfold px_to; rw [pu_b114]; rfl
theorem pu_t114_34 : px_to 114 34 = px_c114_34 := by unfold px_to; rw [pu_b114]; rfl
theorem pu_b115 : px_blk 115 = [(0, px_c115_0), (14, px_c115_14), (21, px_c115_21), (73, px_c115_73), (97, px_c115_97), (103, px_c115_103), (109, px_c115_109), (123, px_c115_123), (124, px_c115_124)] := rfl
theorem pu_t115_0 : px_to 115 0 = px_c115_0 := by unfold px_to; rw [pu_b115]; rfl
theorem pu_t115_14 : px_to 115 14 = px_c115_14 := by unfold px_to; rw [pu_b115]; rfl
theorem pu_t115_21 : px_to 115 21 = px_c115_21 := by unfold px_to; rw [pu_b115]; rfl
theorem pu_t115_73 : px_to 115 73 = px_c115_73 := by unfold px_to; rw [pu_b115]; rfl
theorem pu_t115_97 : px_to 115 97 = px_c115_97 := by unfold px_to; rw [pu_b115]; rfl
theorem pu_t115_103 : px_to 115 103 = px_c115_103 := by unfold px_to; rw [pu_b115]; rfl
theorem pu_t115_109 : px_to 115 109 = px_c115_109 := by unfold px_to; rw [pu_b115]; rfl
theorem pu_t115_123 : px_to 115 123 = px_c115_123 := by unfold px_to; rw [pu_b115]; rfl
theorem pu_t115_124 : px_to 115 124 = px_c115_124 := by unfold px_to; rw [pu_b115]; rfl
theorem pu_b116 : px_blk 116 = [(0, px_c116_0), (20, px_c116_20), (24, px_c116_24), (55, px_c116_55), (61, px_c116_61)] := rfl
theorem pu_t116_0 : px_to 116 0 = px_c116_0 := by unfold px_to; rw [pu_b116]; rfl
theorem pu_t116_20 : px_to 116 20 = px_c116_20 := by unfold px_to; rw [pu_b116]; rfl
theorem pu_t116_24 : px_to 116 24 = px_c116_24 := by unfold px_to; rw [pu_b116]; rfl
theorem pu_t116_55 : px_to 116 55 = px_c116_55 := by unfold px_to; rw [pu_b116]; rfl
theorem pu_t116_61 : px_to 116 61 = px_c116_61 := by unfold px_to; rw [pu_b116]; rfl
theorem pu_b117 : px_blk 117 = [(0, px_c117_0), (6, px_c117_6), (63, px_c117_63), (68, px_c117_68), (74, px_c117_74)] := rfl
theorem pu_t117_0 : px_to 117 0 = px_c117_0 := by unfold px_to; rw [pu_b117]; rfl
theorem pu_t117_6 : px_to 117 6 = px_c117_6 := by unfold px_to; rw [pu_b117]; rfl
theorem pu_t117_63 : px_to 117 63 = px_c117_63 := by unfold px_to; rw [pu_b117]; rfl
theorem pu_t117_68 : px_to 117 68 = px_c117_68 := by unfold px_to; rw [pu_b117]; rfl
theorem pu_t117_74 : px_to 117 74 = px_c117_74 := by unfold px_to; rw [pu_b117]; rfl
theorem pu_b118 : px_blk 118 = [(0, px_c118_0), (27, px_c118_27)] := rfl
theorem pu_t118_0 : px_to 118 0 = px_c118_0 := by unfold px_to; rw [pu_b118]; rfl
theorem pu_t118_27 : px_to 118 27 = px_c118_27 := by unfold px_to; rw [pu_b118]; rfl
theorem pu_b119 : px_blk 119 = [(0, px_c119_0), (20, px_c119_20), (34, px_c119_34), (59, px_c119_59), (87, px_c119_87), (132, px_c119_132), (138, px_c119_138)] := rfl
theorem pu_t119_0 : px_to 119 0 = px_c119_0 := by unfold px_to; rw [pu_b119]; rfl
theorem pu_t119_20 : px_to 119 20 = px_c119_20 := by unfold px_to; rw [pu_b119]; rfl
theorem pu_t119_34 : px_to 119 34 = px_c119_34 := by unfold px_to; rw [pu_b119]; rfl
theorem pu_t119_59 : px_to 119 59 = px_c119_59 := by unfold px_to; rw [pu_b119]; rfl
theorem pu_t119_87 : px_to 119 87 = px_c119_87 := by unfold px_to; rw [pu_b119]; rfl
theorem pu_t119_132 : px_to 119 132 = px_c119_132 := by unfold px_to; rw [pu_b119]; rfl
theorem pu_t119_138 : px_to 119 138 = px_c119_138 := by unfold px_to; rw [pu_b119]; rfl
theorem pu_b120 : px_blk 120 = [(0, px_c120_0), (14, px_c120_14), (39, px_c120_39), (72, px_c120_72), (80, px_c120_80)] := rfl
theorem pu_t120_0 : px_to 120 0 = px_c120_0 := by unfold px_to; rw [pu_b120]; rfl
theorem pu_t120_14 : px_to 120 14 = px_c120_14 := by unfold px_to; rw [pu_b120]; rfl
theorem pu_t120_39 : px_to 120 39 = px_c120_39 := by unfold px_to; rw [pu_b120]; rfl
theorem pu_t120_72 : px_to 120 72 = px_c120_72 := by unfold px_to; rw [pu_b120]; rfl
theorem pu_t120_80 : px_to 120 80 = px_c120_80 := by unfold px_to; rw [pu_b120]; rfl
theorem pu_b121 : px_blk 121 = [(0, px_c121_0), (12, px_c121_12), (19, px_c121_19), (34, px_c121_34), (42, px_c121_42)] := rfl
theorem pu_t121_0 : px_to 121 0 = px_c121_0 := by unfold px_to; rw [pu_b121]; rfl
theorem pu_t121_12 : px_to 121 12 = px_c121_12 := by unfold px_to; rw [pu_b121]; rfl
theorem pu_t121_19 : px_to 121 19 = px_c121_19 := by unfold px_to; rw [pu_b121]; rfl
theorem pu_t121_34 : px_to 121 34 = px_c121_34 := by unfold px_to; rw [pu_b121]; rfl
theorem pu_t121_42 : px_to 121 42 = px_c121_42 := by unfold px_to; rw [pu_b121]; rfl
theorem pu_b122 : px_blk 122 = [(0, px_c122_0), (25, px_c122_25), (31, px_c122_31), (36, px_c122_36), (64, px_c122_64), (65, px_c122_65), (88, px_c122_88), (94, px_c122_94)] := rfl
theorem pu_t122_0 : px_to 122 0 = px_c122_0 := by unfold px_to; rw [pu_b122]; rfl
theorem pu_t122_25 : px_to 122 25 = px_c122_25 := by unfold px_to; rw [pu_b122]; rfl
theorem pu_t122_31 : px_to 122 31 = px_c122_31 := by unfold px_to; rw [pu_b122]; rfl
theorem pu_t122_36 : px_to 122 36 = px_c122_36 := by unfold px_to; rw [pu_b122]; rfl
theorem pu_t122_64 : px_to 122 64 = px_c122_64 := by unfold px_to; rw [pu_b122]; rfl
theorem pu_t122_65 : px_to 122 65 = px_c122_65 := by unfold px_to; rw [pu_b122]; rfl
theorem pu_t122_88 : px_to 122 88 = px_c122_88 := by unfold px_to; rw [pu_b122]; rfl
theorem pu_t122_94 : px_to 122 94 = px_c122_94 := by unfold px_to; rw [pu_b122]; rfl
theorem pu_b123 : px_blk 123 = [(0, px_c123_0), (25, px_c123_25), (31, px_c123_31), (33, px_c123_33), (64, px_c123_64), (65, px_c123_65), (74, px_c123_74)] := rfl
theorem pu_t123_0 : px_to 123 0 = px_c123_0 := by unfold px_to; rw [pu_b123]; rfl
theorem pu_t123_25 : px_to 123 25 = px_c123_25 := by unfold px_to; rw [pu_b123]; rfl
theorem pu_t123_31 : px_to 123 31 = px_c123_31 := by unfold px_to; rw [pu_b123]; rfl
theorem pu_t123_33 : px_to 123 33 = px_c123_33 := by unfold px_to; rw [pu_b123]; rfl
theorem pu_t123_64 : px_to 123 64 = px_c123_64 := by unfold px_to; rw [pu_b123]; rfl
theorem pu_t123_65 : px_to 123 65 = px_c123_65 := by unfold px_to; rw [pu_b123]; rfl
theorem pu_t123_74 : px_to 123 74 = px_c123_74 := by unfold px_to; rw [pu_b123]; rfl
theorem pu_b124 : px_blk 124 = [(0, px_c124_0), (14, px_c124_14), (20, px_c124_20), (52, px_c124_52), (59, px_c124_59), (75, px_c124_75), (82, px_c124_82), (96, px_c124_96), (99, px_c124_99), (129, px_c124_129), (135, px_c124_135)] := rfl
theorem pu_t124_0 : px_to 124 0 = px_c124_0 := by unfold px_to; rw [pu_b124]; rfl
theorem pu_t124_14 : px_to 124 14 = px_c124_14 := by unfold px_to; rw [pu_b124]; rfl
theorem pu_t124_20 : px_to 124 20 = px_c124_20 := by unfold px_to; rw [pu_b124]; rfl
theorem pu_t124_52 : px_to 124 52 = px_c124_52 := by unfold px_to; rw [pu_b124]; rfl
theorem pu_t124_59 : px_to 124 59 = px_c124_59 := by unfold px_to; rw [pu_b124]; rfl
theorem pu_t124_75 : px_to 124 75 = px_c124_75 := by unfold px_to; rw [pu_b124]; rfl
theorem pu_t124_82 : px_to 124 82 = px_c124_82 := by unfold px_to; rw [pu_b124]; rfl
theorem pu_t124_96 : px_to 124 96 = px_c124_96 := by unfold px_to; rw [pu_b124]; rfl
theorem pu_t124_99 : px_to 124 99 = px_c124_99 := by unfold px_to; rw [pu_b124]; rfl
theorem pu_t124_129 : px_to 124 129 = px_c124_129 := by unfold px_to; rw [pu_b124]; rfl
theorem pu_t124_135 : px_to 124 135 = px_c124_135 := by unfold px_to; rw [pu_b124]; rfl
theorem pu_b125 : px_blk 125 = [(0, px_c125_0), (26, px_c125_26), (28, px_c125_28), (80, px_c125_80), (89, px_c125_89), (98, px_c125_98), (107, px_c125_107)] := rfl
theorem pu_t125_0 : px_to 125 0 = px_c125_0 := by unfold px_to; rw [pu_b125]; rfl
theorem pu_t125_26 : px_to 125 26 = px_c125_26 := by unfold px_to; rw [pu_b125]; rfl
theorem pu_t125_28 : px_to 125 28 = px_c125_28 := by unfold px_to; rw [pu_b125]; rfl
theorem pu_t125_80 : px_to 125 80 = px_c125_80 := by unfold px_to; rw [pu_b125]; rfl
theorem pu_t125_89 : px_to 125 89 = px_c125_89 := by unfold px_to; rw [pu_b125]; rfl
theorem pu_t125_98 : px_to 125 98 = px_c125_98 := by unfold px_to; rw [pu_b125]; rfl
theorem pu_t125_107 : px_to 125 107 = px_c125_107 := by unfold px_to; rw [pu_b125]; rfl
theorem pu_b126 : px_blk 126 = [(0, px_c126_0)] := rfl
theorem pu_t126_0 : px_to 126 0 = px_c126_0 := by unfold px_to; rw [pu_b126]; rfl
theorem pu_b127 : px_blk 127 = [(0, px_c127_0)] := rfl
theorem pu_t127_0 : px_to 127 0 = px_c127_0 := by unfold px_to; rw [pu_b127]; rfl
theorem pu_b128 : px_blk 128 = [(0, px_c128_0), (14, px_c128_14)] := rfl
theorem pu_t128_0 : px_to 128 0 = px_c128_0 := by unfold px_to; rw [pu_b128]; rfl
theorem pu_t128_14 : px_to 128 14 = px_c128_14 := by unfold px_to; rw [pu_b128]; rfl
theorem pu_b129 : px_blk 129 = [(0, px_c129_0), (56, px_c129_56), (67, px_c129_67), (78, px_c129_78), (89, px_c129_89), (110, px_c129_110), (121, px_c129_121), (132, px_c129_132), (143, px_c129_143), (154, px_c129_154), (165, px_c129_165), (173, px_c129_173), (197, px_c129_197), (198, px_c129_198)] := rfl
theorem pu_t129_0 : px_to 129 0 = px_c129_0 := by unfold px_to; rw [pu_b129]; rfl
theorem pu_t129_56 : px_to 129 56 = px_c129_56 := by unfold px_to; rw [pu_b129]; rfl
theorem pu_t129_67 : px_to 129 67 = px_c129_67 := by unfold px_to; rw [pu_b129]; rfl
theorem pu_t129_78 : px_to 129 78 = px_c129_78 := by unfold px_to; rw [pu_b129]; rfl
theorem pu_t129_89 : px_to 129 89 = px_c129_89 := by unfold px_to; rw [pu_b129]; rfl
theorem pu_t129_110 : px_to 129 110 = px_c129_110 := by unfold px_to; rw [pu_b129]; rfl
theorem pu_t129_121 : px_to 129 121 = px_c129_121 := by unfold px_to; rw [pu_b129]; rfl
theorem pu_t129_132 : px_to 129 132 = px_c129_132 := by unfold px_to; rw [pu_b129]; rfl
theorem pu_t129_143 : px_to 129 143 = px_c129_143 := by unfold px_to; rw [pu_b129]; rfl
theorem pu_t129_154 : px_to 129 154 = px_c129_154 := by unfold px_to; rw [pu_b129]; rfl
theorem pu_t129_165 : px_to 129 165 = px_c129_165 := by unfold px_to; rw [pu_b129]; rfl
theorem pu_t129_173 : px_to 129 173 = px_c129_173 := by unfold px_to; rw [pu_b129]; rfl
theorem pu_t129_197 : px_to 129 197 = px_c129_197 := by unfold px_to; rw [pu_b129]; rfl
theorem pu_t129_198 : px_to 129 198 = px_c129_198 := by unfold px_to; rw [pu_b129]; rfl
theorem pu_b130 : px_blk 130 = [(0, px_c130_0), (22, px_c130_22)] := rfl
theorem pu_t130_0 : px_to 130 0 = px_c130_0 := by unfold px_to; rw [pu_b130]; rfl
theorem pu_t130_22 : px_to 130 22 = px_c130_22 := by unfold px_to; rw [pu_b130]; rfl
theorem pu_b131 : px_blk 131 = [(0, px_c131_0)] := rfl
theorem pu_t131_0 : px_to 131 0 = px_c131_0 := by unfold px_to; rw [pu_b131]; rfl
theorem pu_b132 : px_blk 132 = [(0, px_c132_0), (9, px_c132_9), (24, px_c132_24), (40, px_c132_40), (42, px_c132_42)] := rfl
theorem pu_t132_0 : px_to 132 0 = px_c132_0 := by unfold px_to; rw [pu_b132]; rfl
theorem pu_t132_9 : px_to 132 9 = px_c132_9 := by unfold px_to; rw [pu_b132]; rfl
theorem pu_t132_24 : px_to 132 24 = px_c132_24 := by unfold px_to; rw [pu_b132]; rfl
theorem pu_t132_40 : px_to 132 40 = px_c132_40 := by unfold px_to; rw [pu_b132]; rfl
theorem pu_t132_42 : px_to 132 42 = px_c132_42 := by unfold px_to; rw [pu_b132]; rfl
theorem pu_b133 : px_blk 133 = [(0, px_c133_0), (9, px_c133_9), (24, px_c133_24), (40, px_c133_40), (42, px_c133_42)] := rfl
theorem pu_t133_0 : px_to 133 0 = px_c133_0 := by unfold px_to; rw [pu_b133]; rfl
theorem pu_t133_9 : px_to 133 9 = px_c133_9 := by unfold px_to; rw [pu_b133]; rfl
theorem pu_t133_24 : px_to 133 24 = px_c133_24 := by unfold px_to; rw [pu_b133]; rfl
theorem pu_t133_40 : px_to 133 40 = px_c133_40 := by unfold px_to; rw [pu_b133]; rfl
theorem pu_t133_42 : px_to 133 42 = px_c133_42 := by unfold px_to; rw [pu_b133]; rfl
theorem pu_b134 : px_blk 134 = [(0, px_c134_0), (6, px_c134_6), (21, px_c134_21), (29, px_c134_29), (31, px_c134_31)] := rfl
theorem pu_t134_0 : px_to 134 0 = px_c134_0 := by unfold px_to; rw [pu_b134]; rfl
theorem pu_t134_6 : px_to 134 6 = px_c134_6 := by unfold px_to; rw [pu_b134]; rfl
theorem pu_t134_21 : px_to 134 21 = px_c134_21 := by unfold px_to; rw [pu_b134]; rfl
theorem pu_t134_29 : px_to 134 29 = px_c134_29 := by unfold px_to; rw [pu_b134]; rfl
theorem pu_t134_31 : px_to 134 31 = px_c134_31 := by unfold px_to; rw [pu_b134]; rfl
theorem pu_b135 : px_blk 135 = [(0, px_c135_0), (20, px_c135_20), (34, px_c135_34), (76, px_c135_76), (78, px_c135_78)] := rfl
theorem pu_t135_0 : px_to 135 0 = px_c135_0 := by unfold px_to; rw [pu_b135]; rfl
theorem pu_t135_20 : px_to 135 20 = px_c135_20 := by unfold px_to; rw [pu_b135]; rfl
theorem pu_t135_34 : px_to 135 34 = px_c135_34 := by unfold px_to; rw [pu_b135]; rfl
theorem pu_t135_76 : px_to 135 76 = px_c135_76 := by unfold px_to; rw [pu_b135]; rfl
theorem pu_t135_78 : px_to 135 78 = px_c135_78 := by unfold px_to; rw [pu_b135]; rfl
theorem pu_b136 : px_blk 136 = [(0, px_c136_0)] := rfl
theorem pu_t136_0 : px_to 136 0 = px_c136_0 := by unfold px_to; rw [pu_b136]; rfl
theorem pu_b137 : px_blk 137 = [(0, px_c137_0)] := rfl
theorem pu_t137_0 : px_to 137 0 = px_c137_0 := by unfold px_to; rw [pu_b137]; rfl
theorem pu_b138 : px_blk 138 = [(0, px_c138_0), (14, px_c138_14), (15, px_c138_15)] := rfl
theorem pu_t138_0 : px_to 138 0 = px_c138_0 := by unfold px_to; rw [pu_b138]; rfl
theorem pu_t138_14 : px_to 138 14 = px_c138_14 := by unfold px_to; rw [pu_b138]; rfl
theorem pu_t138_15 : px_to 138 15 = px_c138_15 := by unfold px_to; rw [pu_b138]; rfl
theorem pu_b139 : px_blk 139 = [(0, px_c139_0), (14, px_c139_14), (15, px_c139_15)] := rfl
theorem pu_t139_0 : px_to 139 0 = px_c139_0 := by unfold px_to; rw [pu_b139]; rfl
theorem pu_t139_14 : px_to 139 14 = px_c139_14 := by unfold px_to; rw [pu_b139]; rfl
theorem pu_t139_15 : px_to 139 15 = px_c139_15 := by unfold px_to; rw [pu_b139]; rfl
theorem pu_b140 : px_blk 140 = [(0, px_c140_0), (14, px_c140_14), (15, px_c140_15)] := rfl
theorem pu_t140_0 : px_to 140 0 = px_c140_0 := by unfold px_to; rw [pu_b140]; rfl
theorem pu_t140_14 : px_to 140 14 = px_c140_14 := by unfold px_to; rw [pu_b140]; rfl
theorem pu_t140_15 : px_to 140 15 = px_c140_15 := by unfold px_to; rw [pu_b140]; rfl
theorem pu_b141 : px_blk 141 = [(0, px_c141_0), (14, px_c141_14), (15, px_c141_15)] := rfl
theorem pu_t141_0 : px_to 141 0 = px_c141_0 := by unfold px_to; rw [pu_b141]; rfl
theorem pu_t141_14 : px_to 141 14 = px_c141_14 := by unfold px_to; rw [pu_b141]; rfl
theorem pu_t141_15 : px_to 141 15 = px_c141_15 := by unfold px_to; rw [pu_b141]; rfl
theorem pu_b142 : px_blk 142 = [(0, px_c142_0), (12, px_c142_12), (13, px_c142_13)] := rfl
theorem pu_t142_0 : px_to 142 0 = px_c142_0 := by unfold px_to; rw [pu_b142]; rfl
theorem pu_t142_12 : px_to 142 12 = px_c142_12 := by unfold px_to; rw [pu_b142]; rfl
theorem pu_t142_13 : px_to 142 13 = px_c142_13 := by unfold px_to; rw [pu_b142]; rfl
theorem pu_b143 : px_blk 143 = [(0, px_c143_0)] := rfl
theorem pu_t143_0 : px_to 143 0 = px_c143_0 := by unfold px_to; rw [pu_b143]; rfl
theorem pu_b144 : px_blk 144 = [(0, px_c144_0)] := rfl
theorem pu_t144_0 : px_to 144 0 = px_c144_0 := by unfold px_to; rw [pu_b144]; rfl
theorem pu_b145 : px_blk 145 = [(0, px_c145_0), (26, px_c145_26), (28, px_c145_28), (50, px_c145_50), (51, px_c145_51)] := rfl
theorem pu_t145_0 : px_to 145 0 = px_c145_0 := by unfold px_to; rw [pu_b145]; rfl
theorem pu_t145_26 : px_to 145 26 = px_c145_26 := by unfold px_to; rw [pu_b145]; rfl
theorem pu_t145_28 : px_to 145 28 = px_c145_28 := by unfold px_to; rw [pu_b145]; rfl
theorem pu_t145_50 : px_to 145 50 = px_c145_50 := by unfold px_to; rw [pu_b145]; rfl
theorem pu_t145_51 : px_to 145 51 = px_c145_51 := by unfold px_to; rw [pu_b145]; rfl
theorem pu_b146 : px_blk 146 = [(0, px_c146_0), (40, px_c146_40), (49, px_c146_49), (53, px_c146_53), (54, px_c146_54), (55, px_c146_55), (60, px_c146_60), (75, px_c146_75), (76, px_c146_76), (77, px_c146_77)] := rfl
theorem pu_t146_0 : px_to 146 0 = px_c146_0 := by unfold px_to; rw [pu_b146]; rfl
theorem pu_t146_40 : px_to 146 40 = px_c146_40 := by unfold px_to; rw [pu_b146]; rfl
theorem pu_t146_49 : px_to 146 49 = px_c146_49 := by unfold px_to; rw [pu_b146]; rfl
theorem pu_t146_53 : px_to 146 53 = px_c146_53 := by unfold px_to; rw [pu_b146]; rfl
theorem pu_t146_54 : px_to 146 54 = px_c146_54 := by unfold px_to; rw [pu_b146]; rfl
theorem pu_t146_55 : px_to 146 55 = px_c146_55 := by unfold px_to; rw [pu_b146]; rfl
theorem pu_t146_60 : px_to 146 60 = px_c146_60 := by unfold px_to; rw [pu_b146]; rfl
theorem pu_t146_75 : px_to 146 75 = px_c146_75 := by unfold px_to; rw [pu_b146]; rfl
theorem pu_t146_76 : px_to 146 76 = px_c146_76 := by unfold px_to; rw [pu_b146]; rfl
theorem pu_t146_77 : px_to 146 77 = px_c146_77 := by unfold px_to; rw [pu_b146]; rfl
theorem pu_b147 : px_blk 147 = [(0, px_c147_0), (56, px_c147_56), (60, px_c147_60), (64, px_c147_64), (68, px_c147_68), (72, px_c147_72), (76, px_c147_76), (80, px_c147_80), (84, px_c147_84), (88, px_c147_88), (92, px_c147_92), (96, px_c147_96)] := rfl
theorem pu_t147_0 : px_to 147 0 = px_c147_0 := by unfold px_to; rw [pu_b147]; rfl
theorem pu_t147_56 : px_to 147 56 = px_c147_56 := by unfold px_to; rw [pu_b147]; rfl
theorem pu_t147_60 : px_to 147 60 = px_c147_60 := by unfold px_to; rw [pu_b147]; rfl
theorem pu_t147_64 : px_to 147 64 = px_c147_64 := by unfold px_to; rw [pu_b147]; rfl
theorem pu_t147_68 : px_to 147 68 = px_c147_68 := by unfold px_to; rw [pu_b147]; rfl
theorem pu_t147_72 : px_to 147 72 = px_c147_72 := by unfold px_to; rw [pu_b147]; rfl
theorem pu_t147_76 : px_to 147 76 = px_c147_76 := by unfold px_to; rw [pu_b147]; rfl
theorem pu_t147_80 : px_to 147 80 = px_c147_80 := by unfold px_to; rw [pu_b147]; rfl
theorem pu_t147_84 : px_to 147 84 = px_c147_84 := by unfold px_to; rw [pu_b147]; rfl
theorem pu_t147_88 : px_to 147 88 = px_c147_88 := by unfold px_to; rw [pu_b147]; rfl
theorem pu_t147_92 : px_to 147 92 = px_c147_92 := by unfold px_to; rw [pu_b147]; rfl
theorem pu_t147_96 : px_to 147 96 = px_c147_96 := by unfold px_to; rw [pu_b147]; rfl
theorem pu_b149 : px_blk 149 = [(0, px_c149_0)] := rfl
theorem pu_t149_0 : px_to 149 0 = px_c149_0 := by unfold px_to; rw [pu_b149]; rfl
theorem pu_b150 : px_blk 150 = [(0, px_c150_0)] := rfl
theorem pu_t150_0 : px_to 150 0 = px_c150_0 := by unfold px_to; rw [pu_b150]; rfl
theorem pu_b151 : px_blk 151 = [(0, px_c151_0), (14, px_c151_14), (15, px_c151_15)] := rfl
theorem pu_t151_0 : px_to 151 0 = px_c151_0 := by unfold px_to; rw [pu_b151]; rfl
theorem pu_t151_14 : px_to 151 14 = px_c151_14 := by unfold px_to; rw [pu_b151]; rfl
theorem pu_t151_15 : px_to 151 15 = px_c151_15 := by unfold px_to; rw [pu_b151]; rfl
theorem pu_b152 : px_blk 152 = [(0, px_c152_0), (14, px_c152_14), (15, px_c152_15)] := rfl
theorem pu_t152_0 : px_to 152 0 = px_c152_0 := by unfold px_to; rw [pu_b152]; rfl
theorem pu_t152_14 : px_to 152 14 = px_c152_14 := by unfold px_to; rw [pu_b152]; rfl
theorem pu_t152_15 : px_to 152 15 = px_c152_15 := by unfold px_to; rw [pu_b152]; rfl
theorem pu_b153 : px_blk 153 = [(0, px_c153_0), (16, px_c153_16), (17, px_c153_17)] := rfl
theorem pu_t153_0 : px_to 153 0 = px_c153_0 := by unfold px_to; rw [pu_b153]; rfl
theorem pu_t153_16 : px_to 153 16 = px_c153_16 := by unfold px_to; rw [pu_b153]; rfl
theorem pu_t153_17 : px_to 153 17 = px_c153_17 := by unfold px_to; rw [pu_b153]; rfl
theorem pu_b154 : px_blk 154 = [(0, px_c154_0), (16, px_c154_16), (17, px_c154_17)] := rfl
theorem pu_t154_0 : px_to 154 0 = px_c154_0 := by unfold px_to; rw [pu_b154]; rfl
theorem pu_t154_16 : px_to 154 16 = px_c154_16 := by unfold px_to; rw [pu_b154]; rfl
theorem pu_t154_17 : px_to 154 17 = px_c154_17 := by unfold px_to; rw [pu_b154]; rfl
theorem pu_b155 : px_blk 155 = [(0, px_c155_0), (18, px_c155_18), (19, px_c155_19)] := rfl
theorem pu_t155_0 : px_to 155 0 = px_c155_0 := by unfold px_to; rw [pu_b155]; rfl
theorem pu_t155_18 : px_to 155 18 = px_c155_18 := by unfold px_to; rw [pu_b155]; rfl
theorem pu_t155_19 : px_to 155 19 = px_c155_19 := by unfold px_to; rw [pu_b155]; rfl
theorem pu_b156 : px_blk 156 = [(0, px_c156_0), (14, px_c156_14), (15, px_c156_15)] := rfl
theorem pu_t156_0 : px_to 156 0 = px_c156_0 := by unfold px_to; rw [pu_b156]; rfl
theorem pu_t156_14 : px_to 156 14 = px_c156_14 := by unfold px_to; rw [pu_b156]; rfl
theorem pu_t156_15 : px_to 156 15 = px_c156_15 := by unfold px_to; rw [pu_b156]; rfl
theorem pu_b157 : px_blk 157 = [(0, px_c157_0), (14, px_c157_14), (25, px_c157_25), (34, px_c157_34), (41, px_c157_41), (54, px_c157_54), (78, px_c157_78), (104, px_c157_104)] := rfl
theorem pu_t157_0 : px_to 157 0 = px_c157_0 := by unfold px_to; rw [pu_b157]; rfl
theorem pu_t157_14 : px_to 157 14 = px_c157_14 := by unfold px_to; rw [pu_b157]; rfl
theorem pu_t157_25 : px_to 157 25 = px_c157_25 := by unfold px_to; rw [pu_b157]; rfl
theorem pu_t157_34 : px_to 157 34 = px_c157_34 := by unfold px_to; rw [pu_b157]; rfl
theorem pu_t157_41 : px_to 157 41 = px_c157_41 := by unfold px_to; rw [pu_b157]; rfl
theorem pu_t157_54 : px_to 157 54 = px_c157_54 := by unfold px_to; rw [pu_b157]; rfl
theorem pu_t157_78 : px_to 157 78 = px_c157_78 := by unfold px_to; rw [pu_b157]; rfl
theorem pu_t157_104 : px_to 157 104 = px_c157_104 := by unfold px_to; rw [pu_b157]; rfl
theorem pu_b158 : px_blk 158 = [(0, px_c158_0), (14, px_c158_14), (31, px_c158_31), (47, px_c158_47), (61, px_c158_61), (68, px_c158_68), (94, px_c158_94), (111, px_c158_111), (127, px_c158_127), (128, px_c158_128)] := rfl
theorem pu_t158_0 : px_to 158 0 = px_c158_0 := by unfold px_to; rw [pu_b158]; rfl
theorem pu_t158_14 : px_to 158 14 = px_c158_14 := by unfold px_to; rw [pu_b158]; rfl
theorem pu_t158_31 : px_to 158 31 = px_c158_31 := by unfold px_to; rw [pu_b158]; rfl
theorem pu_t158_47 : px_to 158 47 = px_c158_47 := by unfold px_to; rw [pu_b158]; rfl
theorem pu_t158_61 : px_to 158 61 = px_c158_61 := by unfold px_to; rw [pu_b158]; rfl
theorem pu_t158_68 : px_to 158 68 = px_c158_68 := by unfold px_to; rw [pu_b158]; rfl
theorem pu_t158_94 : px_to 158 94 = px_c158_94 := by unfold px_to; rw [pu_b158]; rfl
theorem pu_t158_111 : px_to 158 111 = px_c158_111 := by unfold px_to; rw [pu_b158]; rfl
theorem pu_t158_127 : px_to 158 127 = px_c158_127 := by unfold px_to; rw [pu_b158]; rfl
theorem pu_t158_128 : px_to 158 128 = px_c158_128 := by unfold px_to; rw [pu_b158]; rfl
theorem pu_b159 : px_blk 159 = [(0, px_c159_0), (16, px_c159_16), (22, px_c159_22), (77, px_c159_77), (84, px_c159_84), (102, px_c159_102), (109, px_c159_109), (121, px_c159_121), (157, px_c159_157), (164, px_c159_164), (167, px_c159_167), (201, px_c159_201), (204, px_c159_204), (239, px_c159_239)] := rfl
theorem pu_t159_0 : px_to 159 0 = px_c159_0 := by unfold px_to; rw [pu_b159]; rfl
theorem pu_t159_16 : px_to 159 16 = px_c159_16 := by unfold px_to; rw [pu_b159]; rfl
theorem pu_t159_22 : px_to 159 22 = px_c159_22 := by unfold px_to; rw [pu_b159]; rfl
theorem pu_t159_77 : px_to 159 77 = px_c159_77 := by unfold px_to; rw [pu_b159]; rfl
theorem pu_t159_84 : px_to 159 84 = px_c159_84 := by unfold px_to; rw [pu_b159]; rfl
theorem pu_t159_102 : px_to 159 102 = px_c159_102 := by unfold px_to; rw [pu_b159]; rfl
theorem pu_t159_109 : px_to 159 109 = px_c159_109 := by unfold px_to; rw [pu_b159]; rfl
theorem pu_t159_121 : px_to 159 121 = px_c159_121 := by unfold px_to; rw [pu_b159]; rfl
theorem pu_t159_157 : px_to 159 157 = px_c159_157 := by unfold px_to; rw [pu_b159]; rfl
theorem pu_t159_164 : px_to 159 164 = px_c159_164 := by unfold px_to; rw [pu_b159]; rfl
theorem pu_t159_167 : px_to 159 167 = px_c159_167 := by unfold px_to; rw [pu_b159]; rfl
theorem pu_t159_201 : px_to 159 201 = px_c159_201 := by unfold px_to; rw [pu_b159]; rfl
theorem pu_t159_204 : px_to 159 204 = px_c159_204 := by unfold px_to; rw [pu_b159]; rfl
theorem pu_t159_239 : px_to 159 239 = px_c159_239 := by unfold px_to; rw [pu_b159]; rfl
theorem pu_b160 : px_blk 160 = [(0, px_c160_0), (46, px_c160_46), (47, px_c160_47)] := rfl
theorem pu_t160_0 : px_to 160 0 = px_c160_0 := by unfold px_to; rw [pu_b160]; rfl
theorem pu_t160_46 : px_to 160 46 = px_c160_46 := by unfold px_to; rw [pu_b160]; rfl
theorem pu_t160_47 : px_to 160 47 = px_c160_47 := by unfold px_to; rw [pu_b160]; rfl
theorem pu_b161 : px_blk 161 = [(0, px_c161_0), (19, px_c161_19), (25, px_c161_25), (39, px_c161_39), (49, px_c161_49), (58, px_c161_58), (71, px_c161_71), (88, px_c161_88), (92, px_c161_92), (93, px_c161_93), (107, px_c161_107), (147, px_c161_147), (151, px_c161_151), (152, px_c161_152), (170, px_c161_170), (171, px_c161_171)] := rfl
theorem pu_t161_0 : px_to 161 0 = px_c161_0 := by unfold px_to; rw [pu_b161]; rfl
theorem pu_t161_19 : px_to 161 19 = px_c161_19 := by unfold px_to; rw [pu_b161]; rfl
theorem pu_t161_25 : px_to 161 25 = px_c161_25 := by unfold px_to; rw [pu_b161]; rfl
theorem pu_t161_39 : px_to 161 39 = px_c161_39 := by unfold px_to; rw [pu_b161]; rfl
theorem pu_t161_49 : px_to 161 49 = px_c161_49 := by unfold px_to; rw [pu_b161]; rfl
theorem pu_t161_58 : px_to 161 58 = px_c161_58 := by unfold px_to; rw [pu_b161]; rfl
theorem pu_t161_71 : px_to 161 71 = px_c161_71 := by unfold px_to; rw [pu_b161]; rfl
theorem pu_t161_88 : px_to 161 88 = px_c161_88 := by unfold px_to; rw [pu_b161]; rfl
theorem pu_t161_92 : px_to 161 92 = px_c161_92 := by unfold px_to; rw [pu_b161]; rfl
theorem pu_t161_93 : px_to 161 93 = px_c161_93 := by unfold px_to; rw [pu_b161]; rfl
theorem pu_t161_107 : px_to 161 107 = px_c161_107 := by unfold px_to; rw [pu_b161]; rfl
theorem pu_t161_147 : px_to 161 147 = px_c161_147 := by unfold px_to; rw [pu_b161]; rfl
theorem pu_t161_151 : px_to 161 151 = px_c161_151 := by unfold px_to; rw [pu_b161]; rfl
theorem pu_t161_152 : px_to 161 152 = px_c161_152 := by unfold px_to; rw [pu_b161]; rfl
theorem pu_t161_170 : px_to 161 170 = px_c161_170 := by unfold px_to; rw [pu_b161]; rfl
theorem pu_t161_171 : px_to 161 171 = px_c161_171 := by unfold px_to; rw [pu_b161]; rfl
theorem pu_b162 : px_blk 162 = [(0, px_c162_0), (17, px_c162_17), (19, px_c162_19), (41, px_c162_41), (47, px_c162_47)] := rfl
theorem pu_t162_0 : px_to 162 0 = px_c162_0 := by unfold px_to; rw [pu_b162]; rfl
theorem pu_t162_17 : px_to 162 17 = px_c162_17 := by unfold px_to; rw [pu_b162]; rfl
theorem pu_t162_19 : px_to 162 19 = px_c162_19 := by unfold px_to; rw [pu_b162]; rfl
theorem pu_t162_41 : px_to 162 41 = px_c162_41 := by unfold px_to; rw [pu_b162]; rfl
theorem pu_t162_47 : px_to 162 47 = px_c162_47 := by unfold px_to; rw [pu_b162]; rfl
theorem pu_b163 : px_blk 163 = [(0, px_c163_0), (24, px_c163_24), (28, px_c163_28), (29, px_c163_29)] := rfl
theorem pu_t163_0 : px_to 163 0 = px_c163_0 := by unfold px_to; rw [pu_b163]; rfl
theorem pu_t163_24 : px_to 163 24 = px_c163_24 := by unfold px_to; rw [pu_b163]; rfl
theorem pu_t163_28 : px_to 163 28 = px_c163_28 := by unfold px_to; rw [pu_b163]; rfl
theorem pu_t163_29 : px_to 163 29 = px_c163_29 := by unfold px_to; rw [pu_b163]; rfl
theorem pu_b164 : px_blk 164 = [(0, px_c164_0), (18, px_c164_18), (24, px_c164_24), (41, px_c164_41), (57, px_c164_57), (78, px_c164_78), (111, px_c164_111), (118, px_c164_118), (132, px_c164_132), (138, px_c164_138)] := rfl
theorem pu_t164_0 : px_to 164 0 = px_c164_0 := by unfold px_to; rw [pu_b164]; rfl
theorem pu_t164_18 : px_to 164 18 = px_c164_18 := by unfold px_to; rw [pu_b164]; rfl
theorem pu_t164_24 : px_to 164 24 = px_c164_24 := by unfold px_to; rw [pu_b164]; rfl
theorem pu_t164_41 : px_to 164 41 = px_c164_41 := by unfold px_to; rw [pu_b164]; rfl
theorem pu_t164_57 : px_to 164 57 = px_c164_57 := by unfold px_to; rw [pu_b164]; rfl
theorem pu_t164_78 : px_to 164 78 = px_c164_78 := by unfold px_to; rw [pu_b164]; rfl
theorem pu_t164_111 : px_to 164 111 = px_c164_111 := by unfold px_to; rw [pu_b164]; rfl
theorem pu_t164_118 : px_to 164 118 = px_c164_118 := by unfold px_to; rw [pu_b164]; rfl
theorem pu_t164_132 : px_to 164 132 = px_c164_132 := by unfold px_to; rw [pu_b164]; rfl
theorem pu_t164_138 : px_to 164 138 = px_c164_138 := by unfold px_to; rw [pu_b164]; rfl
theorem pu_b165 : px_blk 165 = [(0, px_c165_0), (4, px_c165_4), (20, px_c165_20)] := rfl
theorem pu_t165_0 : px_to 165 0 = px_c165_0 := by unfold px_to; rw [pu_b165]; rfl
theorem pu_t165_4 : px_to 165 4 = px_c165_4 := by unfold px_to; rw [pu_b165]; rfl
theorem pu_t165_20 : px_to 165 20 = px_c165_20 := by unfold px_to; rw [pu_b165]; rfl
theorem pu_b166 : px_blk 166 = [(0, px_c166_0), (12, px_c166_12), (29, px_c166_29), (43, px_c166_43), (44, px_c166_44)] := rfl
theorem pu_t166_0 : px_to 166 0 = px_c166_0 := by unfold px_to; rw [pu_b166]; rfl
theorem pu_t166_12 : px_to 166 12 = px_c166_12 := by unfold px_to; rw [pu_b166]; rfl
theorem pu_t166_29 : px_to 166 29 = px_c166_29 := by unfold px_to; rw [pu_b166]; rfl
theorem pu_t166_43 : px_to 166 43 = px_c166_43 := by unfold px_to; rw [pu_b166]; rfl
theorem pu_t166_44 : px_to 166 44 = px_c166_44 := by unfold px_to; rw [pu_b166]; rfl
theorem pu_b167 : px_blk 167 = [(0, px_c167_0)] := rfl
theorem pu_t167_0 : px_to 167 0 = px_c167_0 := by unfold px_to; rw [pu_b167]; rfl
theorem pu_b168 : px_blk 168 = [(0, px_c168_0), (49, px_c168_49), (50, px_c168_50)] := rfl
theorem pu_t168_0 : px_to 168 0 = px_c168_0 := by unfold px_to; rw [pu_b168]; rfl
theorem pu_t168_49 : px_to 168 49 = px_c168_49 := by unfold px_to; rw [pu_b168]; rfl
theorem pu_t168_50 : px_to 168 50 = px_c168_50 := by unfold px_to; rw [pu_b168]; rfl
theorem pu_b169 : px_blk 169 = [(0, px_c169_0)] := rfl
theorem pu_t169_0 : px_to 169 0 = px_c169_0 := by unfold px_to; rw [pu_b169]; rfl
theorem pu_b170 : px_blk 170 = [(0, px_c170_0), (19, px_c170_19), (37, px_c170_37), (46, px_c170_46)] := rfl
theorem pu_t170_0 : px_to 170 0 = px_c170_0 := by unfold px_to; rw [pu_b170]; rfl
theorem pu_t170_19 : px_to 170 19 = px_c170_19 := by unfold px_to; rw [pu_b170]; rfl
theorem pu_t170_37 : px_to 170 37 = px_c170_37 := by unfold px_to; rw [pu_b170]; rfl
theorem pu_t170_46 : px_to 170 46 = px_c170_46 := by unfold px_to; rw [pu_b170]; rfl
theorem pu_b171 : px_blk 171 = [(0, px_c171_0)] := rfl
theorem pu_t171_0 : px_to 171 0 = px_c171_0 := by unfold px_to; rw [pu_b171]; rfl
theorem pu_b172 : px_blk 172 = [(0, px_c172_0), (14, px_c172_14), (24, px_c172_24), (31, px_c172_31), (49, px_c172_49), (55, px_c172_55)] := rfl
theorem pu_t172_0 : px_to 172 0 = px_c172_0 := by unfold px_to; rw [pu_b172]; rfl
theorem pu_t172_14 : px_to 172 14 = px_c172_14 := by unfold px_to; rw [pu_b172]; rfl
theorem pu_t172_24 : px_to 172 24 = px_c172_24 := by unfold px_to; rw [pu_b172]; rfl
theorem pu_t172_31 : px_to 172 31 = px_c172_31 := by unfold px_to; rw [pu_b172]; rfl
theorem pu_t172_49 : px_to 172 49 = px_c172_49 := by unfold px_to; rw [pu_b172]; rfl
theorem pu_t172_55 : px_to 172 55 = px_c172_55 := by unfold px_to; rw [pu_b172]; rfl
theorem pu_b173 : px_blk 173 = [(0, px_c173_0), (17, px_c173_17), (21, px_c173_21), (39, px_c173_39), (43, px_c173_43), (56, px_c173_56), (57, px_c173_57)] := rfl
theorem pu_t173_0 : px_to 173 0 = px_c173_0 := by unfold px_to; rw [pu_b173]; rfl
theorem pu_t173_17 : px_to 173 17 = px_c173_17 := by unfold px_to; rw [pu_b173]; rfl
theorem pu_t173_21 : px_to 173 21 = px_c173_21 := by unfold px_to; rw [pu_b173]; rfl
theorem pu_t173_39 : px_to 173 39 = px_c173_39 := by unfold px_to; rw [pu_b173]; rfl
theorem pu_t173_43 : px_to 173 43 = px_c173_43 := by unfold px_to; rw [pu_b173]; rfl
theorem pu_t173_56 : px_to 173 56 = px_c173_56 := by unfold px_to; rw [pu_b173]; rfl
theorem pu_t173_57 : px_to 173 57 = px_c173_57 := by unfold px_to; rw [pu_b173]; rfl
theorem pu_b174 : px_blk 174 = [(0, px_c174_0), (24, px_c174_24), (49, px_c174_49), (66, px_c174_66), (77, px_c174_77), (89, px_c174_89), (93, px_c174_93)] := rfl
theorem pu_t174_0 : px_to 174 0 = px_c174_0 := by unfold px_to; rw [pu_b174]; rfl
theorem pu_t174_24 : px_to 174 24 = px_c174_24 := by unfold px_to; rw [pu_b174]; rfl
theorem pu_t174_49 : px_to 174 49 = px_c174_49 := by unfold px_to; rw [pu_b174]; rfl
theorem pu_t174_66 : px_to 174 66 = px_c174_66 := by unfold px_to; rw [pu_b174]; rfl
theorem pu_t174_77 : px_to 174 77 = px_c174_77 := by unfold px_to; rw [pu_b174]; rfl
theorem pu_t174_89 : px_to 174 89 = px_c174_89 := by unfold px_to; rw [pu_b174]; rfl
theorem pu_t174_93 : px_to 174 93 = px_c174_93 := by unfold px_to; rw [pu_b174]; rfl
theorem pu_b175 : px_blk 175 = [(0, px_c175_0), (17, px_c175_17), (23, px_c175_23), (40, px_c175_40), (46, px_c175_46)] := rfl
theorem pu_t175_0 : px_to 175 0 = px_c175_0 := by unfold px_to; rw [pu_b175]; rfl
theorem pu_t175_17 : px_to 175 17 = px_c175_17 := by unfold px_to; rw [pu_b175]; rfl
theorem pu_t175_23 : px_to 175 23 = px_c175_23 := by unfold px_to; rw [pu_b175]; rfl
theorem pu_t175_40 : px_to 175 40 = px_c175_40 := by unfold px_to; rw [pu_b175]; rfl
theorem pu_t175_46 : px_to 175 46 = px_c175_46 := by unfold px_to; rw [pu_b175]; rfl
theorem pu_b176 : px_blk 176 = [(0, px_c176_0)] := rfl
theorem pu_t176_0 : px_to 176 0 = px_c176_0 := by unfold px_to; rw [pu_b176]; rfl
theorem pu_b177 : px_blk 177 = [(0, px_c177_0), (14, px_c177_14), (25, px_c177_25), (32, px_c177_32), (50, px_c177_50), (56, px_c177_56)] := rfl
theorem pu_t177_0 : px_to 177 0 = px_c177_0 := by unfold px_to; rw [pu_b177]; rfl
theorem pu_t177_14 : px_to 177 14 = px_c177_14 := by unfold px_to; rw [pu_b177]; rfl
theorem pu_t177_25 : px_to 177 25 = px_c177_25 := by unfold px_to; rw [pu_b177]; rfl
theorem pu_t177_32 : px_to 177 32 = px_c177_32 := by unfold px_to; rw [pu_b177]; rfl
theorem pu_t177_50 : px_to 177 50 = px_c177_50 := by unfold px_to; rw [pu_b177]; rfl
theorem pu_t177_56 : px_to 177 56 = px_c177_56 := by unfold px_to; rw [pu_b177]; rfl
theorem pu_b178 : px_blk 178 = [(0, px_c178_0)] := rfl
theorem pu_t178_0 : px_to 178 0 = px_c178_0 := by unfold px_to; rw [pu_b178]; rfl
theorem pu_b179 : px_blk 179 = [(0, px_c179_0), (14, px_c179_14), (34, px_c179_34), (41, px_c179_41), (59, px_c179_59), (66, px_c179_66)] := rfl
theorem pu_t179_0 : px_to 179 0 = px_c179_0 := by unfold px_to; rw [pu_b179]; rfl
theorem pu_t179_14 : px_to 179 14 = px_c179_14 := by unfold px_to; rw [pu_b179]; rfl
theorem pu_t179_34 : px_to 179 34 = px_c179_34 := by unfold px_to; rw [pu_b179]; rfl
theorem pu_t179_41 : px_to 179 41 = px_c179_41 := by unfold px_to; rw [pu_b179]; rfl
theorem pu_t179_59 : px_to 179 59 = px_c179_59 := by unfold px_to; rw [pu_b179]; rfl
theorem pu_t179_66 : px_to 179 66 = px_c179_66 := by unfold px_to; rw [pu_b179]; rfl
theorem pu_b180 : px_blk 180 = [(0, px_c180_0), (19, px_c180_19), (23, px_c180_23), (42, px_c180_42), (56, px_c180_56), (67, px_c180_67), (71, px_c180_71), (72, px_c180_72)] := rfl
theorem pu_t180_0 : px_to 180 0 = px_c180_0 := by unfold px_to; rw [pu_b180]; rfl
theorem pu_t180_19 : px_to 180 19 = px_c180_19 := by unfold px_to; rw [pu_b180]; rfl
theorem pu_t180_23 : px_to 180 23 = px_c180_23 := by unfold px_to; rw [pu_b180]; rfl
theorem pu_t180_42 : px_to 180 42 = px_c180_42 := by unfold px_to; rw [pu_b180]; rfl
theorem pu_t180_56 : px_to 180 56 = px_c180_56 := by unfold px_to; rw [pu_b180]; rfl
theorem pu_t180_67 : px_to 180 67 = px_c180_67 := by unfold px_to; rw [pu_b180]; rfl
theorem pu_t180_71 : px_to 180 71 = px_c180_71 := by unfold px_to; rw [pu_b180]; rfl
theorem pu_t180_72 : px_to 180 72 = px_c180_72 := by unfold px_to; rw [pu_b180]; rfl
theorem pu_b181 : px_blk 181 = [(0, px_c181_0), (11, px_c181_11), (23, px_c181_23), (35, px_c181_35), (39, px_c181_39), (52, px_c181_52), (65, px_c181_65), (78, px_c181_78), (83, px_c181_83)] := rfl
theorem pu_t181_0 : px_to 181 0 = px_c181_0 := by unfold px_to; rw [pu_b181]; rfl
theorem pu_t181_11 : px_to 181 11 = px_c181_11 := by unfold px_to; rw [pu_b181]; rfl
theorem pu_t181_23 : px_to 181 23 = px_c181_23 := by unfold px_to; rw [pu_b181]; rfl
theorem pu_t181_35 : px_to 181 35 = px_c181_35 := by unfold px_to; rw [pu_b181]; rfl
theorem pu_t181_39 : px_to 181 39 = px_c181_39 := by unfold px_to; rw [pu_b181]; rfl
theorem pu_t181_52 : px_to 181 52 = px_c181_52 := by unfold px_to; rw [pu_b181]; rfl
theorem pu_t181_65 : px_to 181 65 = px_c181_65 := by unfold px_to; rw [pu_b181]; rfl
theorem pu_t181_78 : px_to 181 78 = px_c181_78 := by unfold px_to; rw [pu_b181]; rfl
theorem pu_t181_83 : px_to 181 83 = px_c181_83 := by unfold px_to; rw [pu_b181]; rfl
theorem pu_b182 : px_blk 182 = [(0, px_c182_0), (18, px_c182_18), (24, px_c182_24)] := rfl
theorem pu_t182_0 : px_to 182 0 = px_c182_0 := by unfold px_to; rw [pu_b182]; rfl
theorem pu_t182_18 : px_to 182 18 = px_c182_18 := by unfold px_to; rw [pu_b182]; rfl
theorem pu_t182_24 : px_to 182 24 = px_c182_24 := by unfold px_to; rw [pu_b182]; rfl
theorem pu_b183 : px_blk 183 = [(0, px_c183_0)] := rfl
theorem pu_t183_0 : px_to 183 0 = px_c183_0 := by unfold px_to; rw [pu_b183]; rfl
theorem pu_b184 : px_blk 184 = [(0, px_c184_0), (9, px_c184_9), (24, px_c184_24), (75, px_c184_75), (93, px_c184_93), (104, px_c184_104), (105, px_c184_105), (106, px_c184_106), (121, px_c184_121), (130, px_c184_130)] := rfl
theorem pu_t184_0 : px_to 184 0 = px_c184_0 := by unfold px_to; rw [pu_b184]; rfl
theorem pu_t184_9 : px_to 184 9 = px_c184_9 := by unfold px_to; rw [pu_b184]; rfl
theorem pu_t184_24 : px_to 184 24 = px_c184_24 := by unfold px_to; rw [pu_b184]; rfl
theorem pu_t184_75 : px_to 184 75 = px_c184_75 := by unfold px_to; rw [pu_b184]; rfl
theorem pu_t184_93 : px_to 184 93 = px_c184_93 := by unfold px_to; rw [pu_b184]; rfl
theorem pu_t184_104 : px_to 184 104 = px_c184_104 := by unfold px_to; rw [pu_b184]; rfl
theorem pu_t184_105 : px_to 184 105 = px_c184_105 := by unfold px_to; rw [pu_b184]; rfl
theorem pu_t184_106 : px_to 184 106 = px_c184_106 := by unfold px_to; rw [pu_b184]; rfl
theorem pu_t184_121 : px_to 184 121 = px_c184_121 := by unfold px_to; rw [pu_b184]; rfl
theorem pu_t184_130 : px_to 184 130 = px_c184_130 := by unfold px_to; rw [pu_b184]; rfl
theorem pu_b185 : px_blk 185 = [(0, px_c185_0), (55, px_c185_55), (56, px_c185_56)] := rfl
theorem pu_t185_0 : px_to 185 0 = px_c185_0 := by unfold px_to; rw [pu_b185]; rfl
theorem pu_t185_55 : px_to 185 55 = px_c185_55 := by unfold px_to; rw [pu_b185]; rfl
theorem pu_t185_56 : px_to 185 56 = px_c185_56 := by unfold px_to; rw [pu_b185]; rfl
theorem pu_b186 : px_blk 186 = [(0, px_c186_0), (26, px_c186_26), (29, px_c186_29), (88, px_c186_88), (104, px_c186_104), (112, px_c186_112), (116, px_c186_116), (117, px_c186_117)] := rfl
theorem pu_t186_0 : px_to 186 0 = px_c186_0 := by unfold px_to; rw [pu_b186]; rfl
theorem pu_t186_26 : px_to 186 26 = px_c186_26 := by unfold px_to; rw [pu_b186]; rfl
theorem pu_t186_29 : px_to 186 29 = px_c186_29 := by unfold px_to; rw [pu_b186]; rfl
theorem pu_t186_88 : px_to 186 88 = px_c186_88 := by unfold px_to; rw [pu_b186]; rfl
theorem pu_t186_104 : px_to 186 104 = px_c186_104 := by unfold px_to; rw [pu_b186]; rfl
theorem pu_t186_112 : px_to 186 112 = px_c186_112 := by unfold px_to; rw [pu_b186]; rfl
theorem pu_t186_116 : px_to 186 116 = px_c186_116 := by unfold px_to; rw [pu_b186]; rfl
theorem pu_t186_117 : px_to 186 117 = px_c186_117 := by unfold px_to; rw [pu_b186]; rfl
theorem pu_b187 : px_blk 187 = [(0, px_c187_0), (31, px_c187_31), (40, px_c187_40)] := rfl
theorem pu_t187_0 : px_to 187 0 = px_c187_0 := by unfold px_to; rw [pu_b187]; rfl
theorem pu_t187_31 : px_to 187 31 = px_c187_31 := by unfold px_to; rw [pu_b187]; rfl
theorem pu_t187_40 : px_to 187 40 = px_c187_40 := by unfold px_to; rw [pu_b187]; rfl
theorem pu_b188 : px_blk 188 = [(0, px_c188_0), (18, px_c188_18), (22, px_c188_22), (40, px_c188_40), (44, px_c188_44), (66, px_c188_66), (85, px_c188_85), (89, px_c188_89), (108, px_c188_108), (109, px_c188_109)] := rfl
theorem pu_t188_0 : px_to 188 0 = px_c188_0 := by unfold px_to; rw [pu_b188]; rfl
theorem pu_t188_18 : px_to 188 18 = px_c188_18 := by unfold px_to; rw [pu_b188]; rfl
theorem pu_t188_22 : px_to 188 22 = px_c188_22 := by unfold px_to; rw [pu_b188]; rfl
theorem pu_t188_40 : px_to 188 40 = px_c188_40 := by unfold px_to; rw [pu_b188]; rfl
theorem pu_t188_44 : px_to 188 44 = px_c188_44 := by unfold px_to; rw [pu_b188]; rfl
theorem pu_t188_66 : px_to 188 66 = px_c188_66 := by unfold px_to; rw [pu_b188]; rfl
theorem pu_t188_85 : px_to 188 85 = px_c188_85 := by unfold px_to; rw [pu_b188]; rfl
theorem pu_t188_89 : px_to 188 89 = px_c188_89 := by unfold px_to; rw [pu_b188]; rfl
theorem pu_t188_108 : px_to 188 108 = px_c188_108 := by unfold px_to; rw [pu_b188]; rfl
theorem pu_t188_109 : px_to 188 109 = px_c188_109 := by unfold px_to; rw [pu_b188]; rfl
theorem pu_b189 : px_blk 189 = [(0, px_c189_0), (4, px_c189_4), (23, px_c189_23), (24, px_c189_24), (32, px_c189_32), (37, px_c189_37), (86, px_c189_86), (101, px_c189_101), (102, px_c189_102)] := rfl
theorem pu_t189_0 : px_to 189 0 = px_c189_0 := by unfold px_to; rw [pu_b189]; rfl
theorem pu_t189_4 : px_to 189 4 = px_c189_4 := by unfold px_to; rw [pu_b189]; rfl
theorem pu_t189_23 : px_to 189 23 = px_c189_23 := by unfold px_to; rw [pu_b189]; rfl
theorem pu_t189_24 : px_to 189 24 = px_c189_24 := by unfold px_to; rw [pu_b189]; rfl
theorem pu_t189_32 : px_to 189 32 = px_c189_32 := by unfold px_to; rw [pu_b189]; rfl
theorem pu_t189_37 : px_to 189 37 = px_c189_37 := by unfold px_to; rw [pu_b189]; rfl
theorem pu_t189_86 : px_to 189 86 = px_c189_86 := by unfold px_to; rw [pu_b189]; rfl
theorem pu_t189_101 : px_to 189 101 = px_c189_101 := by unfold px_to; rw [pu_b189]; rfl
theorem pu_t189_102 : px_to 189 102 = px_c189_102 := by unfold px_to; rw [pu_b189]; rfl
theorem pu_b190 : px_blk 190 = [(0, px_c190_0), (2, px_c190_2), (33, px_c190_33), (39, px_c190_39), (56, px_c190_56), (70, px_c190_70), (71, px_c190_71), (81, px_c190_81), (91, px_c190_91), (101, px_c190_101), (103, px_c190_103), (111, px_c190_111), (123, px_c190_123), (141, px_c190_141), (145, px_c190_145), (163, px_c190_163), (167, px_c190_167), (184, px_c190_184), (203, px_c190_203), (207, px_c190_207), (220, px_c190_220), (221, px_c190_221), (232, px_c190_232), (242, px_c190_242), (243, px_c190_243), (253, px_c190_253), (255, px_c190_255), (263, px_c190_263), (294, px_c190_294), (306, px_c190_306), (310, px_c190_310), (311, px_c190_311), (321, px_c190_321), (326, px_c190_326), (329, px_c190_329), (337, px_c190_337), (360, px_c190_360), (378, px_c190_378), (396, px_c190_396), (412, px_c190_412), (424, px_c190_424), (442, px_c190_442), (457, px_c190_457)] := rfl
theorem pu_t190_0 : px_to 190 0 = px_c190_0 := by unfold px_to; rw [pu_b190]; rfl
theorem pu_t190_2 : px_to 190 2 = px_c190_2 := by unfold px_to; rw [pu_b190]; rfl
theorem pu_t190_33 : px_to 190 33 = px_c190_33 := by unfold px_to; rw [pu_b190]; rfl
theorem pu_t190_39 : px_to 190 39 = px_c190_39 := by unfold px_to; rw [pu_b190]; rfl
theorem pu_t190_56 : px_to 190 56 = px_c190_56 := by unfold px_to; rw [pu_b190]; rfl
theorem pu_t190_70 : px_to 190 70 = px_c190_70 := by unfold px_to; rw [pu_b190]; rfl
theorem pu_t190_71 : px_to 190 71 = px_c190_71 := by unfold px_to; rw [pu_b190]; rfl
theorem pu_t190_81 : px_to 190 81 = px_c190_81 := by unfold px_to; rw [pu_b190]; rfl
theorem pu_t190_91 : px_to 190 91 = px_c190_91 := by unfold px_to; rw [pu_b190]; rfl
theorem pu_t190_101 : px_to 190 101 = px_c190_101 := by unfold px_to; rw [pu_b190]; rfl
theorem pu_t190_103 : px_to 190 103 = px_c190_103 := by unfold px_to; rw [pu_b190]; rfl
theorem pu_t190_111 : px_to 190 111 = px_c190_111 := by unfold px_to; rw [pu_b190]; rfl
theorem pu_t190_123 : px_to 190 123 = px_c190_123 := by unfold px_to; rw [pu_b190]; rfl
theorem pu_t190_141 : px_to 190 141 = px_c190_141 := by unfold px_to; rw [pu_b190]; rfl
theorem pu_t190_145 : px_to 190 145 = px_c190_145 := by unfold px_to; rw [pu_b190]; rfl
theorem pu_t190_163 : px_to 190 163 = px_c190_163 := by unfold px_to; rw [pu_b190]; rfl
theorem pu_t190_167 : px_to 190 167 = px_c190_167 := by unfold px_to; rw [pu_b190]; rfl
theorem pu_t190_184 : px_to 190 184 = px_c190_184 := by unfold px_to; rw [pu_b190]; rfl
theorem pu_t190_203 : px_to 190 203 = px_c190_203 := by unfold px_to; rw [pu_b190]; rfl
theorem pu_t190_207 : px_to 190 207 = px_c190_207 := by unfold px_to; rw [pu_b190]; rfl
theorem pu_t190_220 : px_to 190 220 = px_c190_220 := by unfold px_to; rw [pu_b190]; rfl
theorem pu_t190_221 : px_to 190 221 = px_c190_221 := by unfold px_to; rw [pu_b190]; rfl
theorem pu_t190_232 : px_to 190 232 = px_c190_232 := by unfold px_to; rw [pu_b190]; rfl
theorem pu_t190_242 : px_to 190 242 = px_c190_242 := by unfold px_to; rw [pu_b190]; rfl
theorem pu_t190_243 : px_to 190 243 = px_c190_243 := by unfold px_to; rw [pu_b190]; rfl
theorem pu_t190_253 : px_to 190 253 = px_c190_253 := by unfold px_to; rw [pu_b190]; rfl
theorem pu_t190_255 : px_to 190 255 = px_c190_255 := by unfold px_to; rw [pu_b190]; rfl
theorem pu_t190_263 : px_to 190 263 = px_c190_263 := by unfold px_to; rw [pu_b190]; rfl
theorem pu_t190_294 : px_to 190 294 = px_c190_294 := by unfold px_to; rw [pu_b190]; rfl
theorem pu_t190_306 : px_to 190 306 = px_c190_306 := by unfold px_to; rw [pu_b190]; rfl
theorem pu_t190_310 : px_to 190 310 = px_c190_310 := by unfold px_to; rw [pu_b190]; rfl
theorem pu_t190_311 : px_to 190 311 = px_c190_311 := by unfold px_to; rw [pu_b190]; rfl
theorem pu_t190_321 : px_to 190 321 = px_c190_321 := by unfold px_to; rw [pu_b190]; rfl
theorem pu_t190_326 : px_to 190 326 = px_c190_326 := by unfold px_to; rw [pu_b190]; rfl
theorem pu_t190_329 : px_to 190 329 = px_c190_329 := by unfold px_to; rw [pu_b190]; rfl
theorem pu_t190_337 : px_to 190 337 = px_c190_337 := by unfold px_to; rw [pu_b190]; rfl
theorem pu_t190_360 : px_to 190 360 = px_c190_360 := by unfold px_to; rw [pu_b190]; rfl
theorem pu_t190_378 : px_to 190 378 = px_c190_378 := by unfold px_to; rw [pu_b190]; rfl
theorem pu_t190_396 : px_to 190 396 = px_c190_396 := by unfold px_to; rw [pu_b190]; rfl
theorem pu_t190_412 : px_to 190 412 = px_c190_412 := by unfold px_to; rw [pu_b190]; rfl
theorem pu_t190_424 : px_to 190 424 = px_c190_424 := by unfold px_to; rw [pu_b190]; rfl
theorem pu_t190_442 : px_to 190 442 = px_c190_442 := by unfold px_to; rw [pu_b190]; rfl
theorem pu_t190_457 : px_to 190 457 = px_c190_457 := by unfold px_to; rw [pu_b190]; rfl
theorem pu_b191 : px_blk 191 = [(0, px_c191_0), (87, px_c191_87)] := rfl
theorem pu_t191_0 : px_to 191 0 = px_c191_0 := by unfold px_to; rw [pu_b191]; rfl
theorem pu_t191_87 : px_to 191 87 = px_c191_87 := by unfold px_to; rw [pu_b191]; rfl
theorem pu_b192 : px_blk 192 = [(0, px_c192_0), (17, px_c192_17), (62, px_c192_62), (111, px_c192_111), (133, px_c192_133), (140, px_c192_140)] := rfl
theorem pu_t192_0 : px_to 192 0 = px_c192_0 := by unfold px_to; rw [pu_b192]; rfl
theorem pu_t192_17 : px_to 192 17 = px_c192_17 := by unfold px_to; rw [pu_b192]; rfl
theorem pu_t192_62 : px_to 192 62 = px_c192_62 := by unfold px_to; rw [pu_b192]; rfl
theorem pu_t192_111 : px_to 192 111 = px_c192_111 := by unfold px_to; rw [pu_b192]; rfl
theorem pu_t192_133 : px_to 192 133 = px_c192_133 := by unfold px_to; rw [pu_b192]; rfl
theorem pu_t192_140 : px_to 192 140 = px_c192_140 := by unfold px_to; rw [pu_b192]; rfl
theorem pu_b193 : px_blk 193 = [(0, px_c193_0)] := rfl
theorem pu_t193_0 : px_to 193 0 = px_c193_0 := by unfold px_to; rw [pu_b193]; rfl
theorem pu_b194 : px_blk 194 = [(0, px_c194_0), (17, px_c194_17), (24, px_c194_24), (37, px_c194_37), (51, px_c194_51), (65, px_c194_65), (71, px_c194_71)] := rfl
theorem pu_t194_0 : px_to 194 0 = px_c194_0 := by unfold px_to; rw [pu_b194]; rfl
theorem pu_t194_17 : px_to 194 17 = px_c194_17 := by unfold px_to; rw [pu_b194]; rfl
theorem pu_t194_24 : px_to 194 24 = px_c194_24 := by unfold px_to; rw [pu_b194]; rfl
theorem pu_t194_37 : px_to 194 37 = px_c194_37 := by unfold px_to; rw [pu_b194]; rfl
theorem pu_t194_51 : px_to 194 51 = px_c194_51 := by unfold px_to; rw [pu_b194]; rfl
theorem pu_t194_65 : px_to 194 65 = px_c194_65 := by unfold px_to; rw [pu_b194]; rfl
theorem pu_t194_71 : px_to 194 71 = px_c194_71 := by unfold px_to; rw [pu_b194]; rfl
theorem pu_b195 : px_blk 195 = [(0, px_c195_0), (17, px_c195_17), (24, px_c195_24), (37, px_c195_37), (51, px_c195_51), (65, px_c195_65), (71, px_c195_71)] := rfl
theorem pu_t195_0 : px_to 195 0 = px_c195_0 := by unfold px_to; rw [pu_b195]; rfl
theorem pu_t195_17 : px_to 195 17 = px_c195_17 := by unfold px_to; rw [pu_b195]; rfl
theorem pu_t195_24 : px_to 195 24 = px_c195_24 := by unfold px_to; rw [pu_b195]; rfl
theorem pu_t195_37 : px_to 195 37 = px_c195_37 := by unfold px_to; rw [pu_b195]; rfl
theorem pu_t195_51 : px_to 195 51 = px_c195_51 := by unfold px_to; rw [pu_b195]; rfl
theorem pu_t195_65 : px_to 195 65 = px_c195_65 := by unfold px_to; rw [pu_b195]; rfl
theorem pu_t195_71 : px_to 195 71 = px_c195_71 := by unfold px_to; rw [pu_b195]; rfl
theorem pu_b196 : px_blk 196 = [(0, px_c196_0), (21, px_c196_21), (27, px_c196_27)] := rfl
theorem pu_t196_0 : px_to 196 0 = px_c196_0 := by unfold px_to; rw [pu_b196]; rfl
theorem pu_t196_21 : px_to 196 21 = px_c196_21 := by unfold px_to; rw [pu_b196]; rfl
theorem pu_t196_27 : px_to 196 27 = px_c196_27 := by unfold px_to; rw [pu_b196]; rfl
theorem pu_b197 : px_blk 197 = [(0, px_c197_0), (14, px_c197_14), (31, px_c197_31), (39, px_c197_39), (40, px_c197_40), (53, px_c197_53)] := rfl
theorem pu_t197_0 : px_to 197 0 = px_c197_0 := by unfold px_to; rw [pu_b197]; rfl
theorem pu_t197_14 : px_to 197 14 = px_c197_14 := by unfold px_to; rw [pu_b197]; rfl
theorem pu_t197_31 : px_to 197 31 = px_c197_31 := by unfold px_to; rw [pu_b197]; rfl
theorem pu_t197_39 : px_to 197 39 = px_c197_39 := by unfold px_to; rw [pu_b197]; rfl
theorem pu_t197_40 : px_to 197 40 = px_c197_40 := by unfold px_to; rw [pu_b197]; rfl
theorem pu_t197_53 : px_to 197 53 = px_c197_53 := by unfold px_to; rw [pu_b197]; rfl
theorem pu_b198 : px_blk 198 = [(0, px_c198_0), (4, px_c198_4), (28, px_c198_28), (34, px_c198_34)] := rfl
theorem pu_t198_0 : px_to 198 0 = px_c198_0 := by unfold px_to; rw [pu_b198]; rfl
theorem pu_t198_4 : px_to 198 4 = px_c198_4 := by unfold px_to; rw [pu_b198]; rfl
theorem pu_t198_28 : px_to 198 28 = px_c198_28 := by unfold px_to; rw [pu_b198]; rfl
theorem pu_t198_34 : px_to 198 34 = px_c198_34 := by unfold px_to; rw [pu_b198]; rfl
theorem pu_b199 : px_blk 199 = [(0, px_c199_0), (11, px_c199_11), (15, px_c199_15), (26, px_c199_26), (30, px_c199_30), (45, px_c199_45), (46, px_c199_46)] := rfl
theorem pu_t199_0 : px_to 199 0 = px_c199_0 := by unfold px_to; rw [pu_b199]; rfl
theorem pu_t199_11 : px_to 199 11 = px_c199_11 := by unfold px_to; rw [pu_b199]; rfl
theorem pu_t199_15 : px_to 199 15 = px_c199_15 := by unfold px_to; rw [pu_b199]; rfl
theorem pu_t199_26 : px_to 199 26 = px_c199_26 := by unfold px_to; rw [pu_b199]; rfl
theorem pu_t199_30 : px_to 199 30 = px_c199_30 := by unfold px_to; rw [pu_b199]; rfl
theorem pu_t199_45 : px_to 199 45 = px_c199_45 := by unfold px_to; rw [pu_b199]; rfl
theorem pu_t199_46 : px_to 199 46 = px_c199_46 := by unfold px_to; rw [pu_b199]; rfl
theorem pu_b200 : px_blk 200 = [(0, px_c200_0), (38, px_c200_38), (52, px_c200_52), (56, px_c200_56), (57, px_c200_57)] := rfl
theorem pu_t200_0 : px_to 200 0 = px_c200_0 := by unfold px_to; rw [pu_b200]; rfl
theorem pu_t200_38 : px_to 200 38 = px_c200_38 := by unfold px_to; rw [pu_b200]; rfl
theorem pu_t200_52 : px_to 200 52 = px_c200_52 := by unfold px_to; rw [pu_b200]; rfl
theorem pu_t200_56 : px_to 200 56 = px_c200_56 := by unfold px_to; rw [pu_b200]; rfl
theorem pu_t200_57 : px_to 200 57 = px_c200_57 := by unfold px_to; rw [pu_b200]; rfl
theorem pu_b201 : px_blk 201 = [(0, px_c201_0), (63, px_c201_63), (81, px_c201_81), (126, px_c201_126), (132, px_c201_132), (135, px_c201_135), (168, px_c201_168), (174, px_c201_174)] := rfl
theorem pu_t201_0 : px_to 201 0 = px_c201_0 := by unfold px_to; rw [pu_b201]; rfl
theorem pu_t201_63 : px_to 201 63 = px_c201_63 := by unfold px_to; rw [pu_b201]; rfl
theorem pu_t201_81 : px_to 201 81 = px_c201_81 := by unfold px_to; rw [pu_b201]; rfl
theorem pu_t201_126 : px_to 201 126 = px_c201_126 := by unfold px_to; rw [pu_b201]; rfl
theorem pu_t201_132 : px_to 201 132 = px_c201_132 := by unfold px_to; rw [pu_b201]; rfl
theorem pu_t201_135 : px_to 201 135 = px_c201_135 := by unfold px_to; rw [pu_b201]; rfl
theorem pu_t201_168 : px_to 201 168 = px_c201_168 := by unfold px_to; rw [pu_b201]; rfl
theorem pu_t201_174 : px_to 201 174 = px_c201_174 := by unfold px_to; rw [pu_b201]; rfl
theorem pu_b202 : px_blk 202 = [(0, px_c202_0), (14, px_c202_14), (38, px_c202_38), (84, px_c202_84), (88, px_c202_88), (94, px_c202_94), (103, px_c202_103), (128, px_c202_128), (153, px_c202_153), (154, px_c202_154), (156, px_c202_156), (175, px_c202_175), (176, px_c202_176), (178, px_c202_178), (198, px_c202_198), (199, px_c202_199), (201, px_c202_201), (224, px_c202_224), (225, px_c202_225), (243, px_c202_243), (257, px_c202_257), (263, px_c202_263)] := rfl
theorem pu_t202_0 : px_to 202 0 = px_c202_0 := by unfold px_to; rw [pu_b202]; rfl
theorem pu_t202_14 : px_to 202 14 = px_c202_14 := by unfold px_to; rw [pu_b202]; rfl
theorem pu_t202_38 : px_to 202 38 = px_c202_38 := by unfold px_to; rw [pu_b202]; rfl
theorem pu_t202_84 : px_to 202 84 = px_c202_84 := by unfold px_to; rw [pu_b202]; rfl
theorem pu_t202_88 : px_to 202 88 = px_c202_88 := by unfold px_to; rw [pu_b202]; rfl
theorem pu_t202_94 : px_to 202 94 = px_c202_94 := by unfold px_to; rw [pu_b202]; rfl
theorem pu_t202_103 : px_to 202 103 = px_c202_103 := by unfold px_to; rw [pu_b202]; rfl
theorem pu_t202_128 : px_to 202 128 = px_c202_128 := by unfold px_to; rw [pu_b202]; rfl
theorem pu_t202_153 : px_to 202 153 = px_c202_153 := by unfold px_to; rw [pu_b202]; rfl
theorem pu_t202_154 : px_to 202 154 = px_c202_154 := by unfold px_to; rw [pu_b202]; rfl
theorem pu_t202_156 : px_to 202 156 = px_c202_156 := by unfold px_to; rw [pu_b202]; rfl
theorem pu_t202_175 : px_to 202 175 = px_c202_175 := by unfold px_to; rw [pu_b202]; rfl
theorem pu_t202_176 : px_to 202 176 = px_c202_176 := by unfold px_to; rw [pu_b202]; rfl
theorem pu_t202_178 : px_to 202 178 = px_c202_178 := by unfold px_to; rw [pu_b202]; rfl
theorem pu_t202_198 : px_to 202 198 = px_c202_198 := by unfold px_to; rw [pu_b202]; rfl
theorem pu_t202_199 : px_to 202 199 = px_c202_199 := by unfold px_to; rw [pu_b202]; rfl
theorem pu_t202_201 : px_to 202 201 = px_c202_201 := by unfold px_to; rw [pu_b202]; rfl
theorem pu_t202_224 : px_to 202 224 = px_c202_224 := by unfold px_to; rw [pu_b202]; rfl
theorem pu_t202_225 : px_to 202 225 = px_c202_225 := by unfold px_to; rw [pu_b202]; rfl
theorem pu_t202_243 : px_to 202 243 = px_c202_243 := by unfold px_to; rw [pu_b202]; rfl
theorem pu_t202_257 : px_to 202 257 = px_c202_257 := by unfold px_to; rw [pu_b202]; rfl
theorem pu_t202_263 : px_to 202 263 = px_c202_263 := by unfold px_to; rw [pu_b202]; rfl
theorem pu_b203 : px_blk 203 = [(0, px_c203_0), (5, px_c203_5), (35, px_c203_35), (41, px_c203_41)] := rfl
theorem pu_t203_0 : px_to 203 0 = px_c203_0 := by unfold px_to; rw [pu_b203]; rfl
theorem pu_t203_5 : px_to 203 5 = px_c203_5 := by unfold px_to; rw [pu_b203]; rfl
theorem pu_t203_35 : px_to 203 35 = px_c203_35 := by unfold px_to; rw [pu_b203]; rfl
theorem pu_t203_41 : px_to 203 41 = px_c203_41 := by unfold px_to; rw [pu_b203]; rfl
theorem pu_b204 : px_blk 204 = [(0, px_c204_0), (22, px_c204_22), (23, px_c204_23), (43, px_c204_43), (45, px_c204_45), (58, px_c204_58), (74, px_c204_74), (82, px_c204_82)] := rfl
theorem pu_t204_0 : px_to 204 0 = px_c204_0 := by unfold px_to; rw [pu_b204]; rfl
theorem pu_t204_22 : px_to 204 22 = px_c204_22 := by unfold px_to; rw [pu_b204]; rfl
theorem pu_t204_23 : px_to 204 23 = px_c204_23 := by unfold px_to; rw [pu_b204]; rfl
theorem pu_t204_43 : px_to 204 43 = px_c204_43 := by unfold px_to; rw [pu_b204]; rfl
theorem pu_t204_45 : px_to 204 45 = px_c204_45 := by unfold px_to; rw [pu_b204]; rfl
theorem pu_t204_58 : px_to 204 58 = px_c204_58 := by unfold px_to; rw [pu_b204]; rfl
theorem pu_t204_74 : px_to 204 74 = px_c204_74 := by unfold px_to; rw [pu_b204]; rfl
theorem pu_t204_82 : px_to 204 82 = px_c204_82 := by unfold px_to; rw [pu_b204]; rfl
theorem pu_b205 : px_blk 205 = [(0, px_c205_0), (27, px_c205_27), (29, px_c205_29)] := rfl
theorem pu_t205_0 : px_to 205 0 = px_c205_0 := by unfold px_to; rw [pu_b205]; rfl
theorem pu_t205_27 : px_to 205 27 = px_c205_27 := by unfold px_to; rw [pu_b205]; rfl
theorem pu_t205_29 : px_to 205 29 = px_c205_29 := by unfold px_to; rw [pu_b205]; rfl
theorem pu_b206 : px_blk 206 = [(0, px_c206_0), (22, px_c206_22), (66, px_c206_66), (67, px_c206_67), (73, px_c206_73), (79, px_c206_79)] := rfl
theorem pu_t206_0 : px_to 206 0 = px_c206_0 := by unfold px_to; rw [pu_b206]; rfl
theorem pu_t206_22 : px_to 206 22 = px_c206_22 := by unfold px_to; rw [pu_b206]; rfl
theorem pu_t206_66 : px_to 206 66 = px_c206_66 := by unfold px_to; rw [pu_b206]; rfl
theorem pu_t206_67 : px_to 206 67 = px_c206_67 := by unfold px_to; rw [pu_b206]; rfl
theorem pu_t206_73 : px_to 206 73 = px_c206_73 := by unfold px_to; rw [pu_b206]; rfl
theorem pu_t206_79 : px_to 206 79 = px_c206_79 := by unfold px_to; rw [pu_b206]; rfl
theorem pu_b207 : px_blk 207 = [(0, px_c207_0)] := rfl
theorem pu_t207_0 : px_to 207 0 = px_c207_0 := by unfold px_to; rw [pu_b207]; rfl
theorem pu_b208 : px_blk 208 = [(0, px_c208_0), (16, px_c208_16), (22, px_c208_22), (42, px_c208_42), (59, px_c208_59), (66, px_c208_66)] := rfl
theorem pu_t208_0 : px_to 208 0 = px_c208_0 := by unfold px_to; rw [pu_b208]; rfl
theorem pu_t208_16 : px_to 208 16 = px_c208_16 := by unfold px_to; rw [pu_b208]; rfl
theorem pu_t208_22 : px_to 208 22 = px_c208_22 := by unfold px_to; rw [pu_b208]; rfl
theorem pu_t208_42 : px_to 208 42 = px_c208_42 := by unfold px_to; rw [pu_b208]; rfl
theorem pu_t208_59 : px_to 208 59 = px_c208_59 := by unfold px_to; rw [pu_b208]; rfl
theorem pu_t208_66 : px_to 208 66 = px_c208_66 := by unfold px_to; rw [pu_b208]; rfl
theorem pu_b209 : px_blk 209 = [(0, px_c209_0), (16, px_c209_16), (22, px_c209_22), (42, px_c209_42), (59, px_c209_59), (66, px_c209_66), (96, px_c209_96), (163, px_c209_163), (164, px_c209_164), (172, px_c209_172), (178, px_c209_178)] := rfl
theorem pu_t209_0 : px_to 209 0 = px_c209_0 := by unfold px_to; rw [pu_b209]; rfl
theorem pu_t209_16 : px_to 209 16 = px_c209_16 := by unfold px_to; rw [pu_b209]; rfl
theorem pu_t209_22 : px_to 209 22 = px_c209_22 := by unfold px_to; rw [pu_b209]; rfl
theorem pu_t209_42 : px_to 209 42 = px_c209_42 := by unfold px_to; rw [pu_b209]; rfl
theorem pu_t209_59 : px_to 209 59 = px_c209_59 := by unfold px_to; rw [pu_b209]; rfl
theorem pu_t209_66 : px_to 209 66 = px_c209_66 := by unfold px_to; rw [pu_b209]; rfl
theorem pu_t209_96 : px_to 209 96 = px_c209_96 := by unfold px_to; rw [pu_b209]; rfl
theorem pu_t209_163 : px_to 209 163 = px_c209_163 := by unfold px_to; rw [pu_b209]; rfl
theorem pu_t209_164 : px_to 209 164 = px_c209_164 := by unfold px_to; rw [pu_b209]; rfl
theorem pu_t209_172 : px_to 209 172 = px_c209_172 := by unfold px_to; rw [pu_b209]; rfl
theorem pu_t209_178 : px_to 209 178 = px_c209_178 := by unfold px_to; rw [pu_b209]; rfl
theorem pu_b210 : px_blk 210 = [(0, px_c210_0), (2, px_c210_2), (22, px_c210_22), (28, px_c210_28)] := rfl
theorem pu_t210_0 : px_to 210 0 = px_c210_0 := by unfold px_to; rw [pu_b210]; rfl
theorem pu_t210_2 : px_to 210 2 = px_c210_2 := by unfold px_to; rw [pu_b210]; rfl
theorem pu_t210_22 : px_to 210 22 = px_c210_22 := by unfold px_to; rw [pu_b210]; rfl
theorem pu_t210_28 : px_to 210 28 = px_c210_28 := by unfold px_to; rw [pu_b210]; rfl
theorem pu_b211 : px_blk 211 = [(0, px_c211_0), (19, px_c211_19), (37, px_c211_37), (59, px_c211_59), (80, px_c211_80), (83, px_c211_83), (104, px_c211_104), (105, px_c211_105), (106, px_c211_106), (112, px_c211_112), (115, px_c211_115), (144, px_c211_144), (152, px_c211_152), (158, px_c211_158), (185, px_c211_185), (188, px_c211_188), (233, px_c211_233), (246, px_c211_246), (252, px_c211_252)] := rfl
theorem pu_t211_0 : px_to 211 0 = px_c211_0 := by unfold px_to; rw [pu_b211]; rfl
theorem pu_t211_19 : px_to 211 19 = px_c211_19 := by unfold px_to; rw [pu_b211]; rfl
theorem pu_t211_37 : px_to 211 37 = px_c211_37 := by unfold px_to; rw [pu_b211]; rfl
theorem pu_t211_59 : px_to 211 59 = px_c211_59 := by unfold px_to; rw [pu_b211]; rfl
theorem pu_t211_80 : px_to 211 80 = px_c211_80 := by unfold px_to; rw [pu_b211]; rfl
theorem pu_t211_83 : px_to 211 83 = px_c211_83 := by unfold px_to; rw [pu_b211]; rfl
theorem pu_t211_104 : px_to 211 104 = px_c211_104 := by unfold px_to; rw [pu_b211]; rfl
theorem pu_t211_105 : px_to 211 105 = px_c211_105 := by unfold px_to; rw [pu_b211]; rfl
theorem pu_t211_106 : px_to 211 106 = px_c211_106 := by unfold px_to; rw [pu_b211]; rfl
theorem pu_t211_112 : px_to 211 112 = px_c211_112 := by unfold px_to; rw [pu_b211]; rfl
theorem pu_t211_115 : px_to 211 115 = px_c211_115 := by unfold px_to; rw [pu_b211]; rfl
theorem pu_t211_144 : px_to 211 144 = px_c211_144 := by unfold px_to; rw [pu_b211]; rfl
theorem pu_t211_152 : px_to 211 152 = px_c211_152 := by unfold px_to; rw [pu_b211]; rfl
theorem pu_t211_158 : px_to 211 158 = px_c211_158 := by unfold px_to; rw [pu_b211]; rfl
theorem pu_t211_185 : px_to 211 185 = px_c211_185 := by unfold px_to; rw [pu_b211]; rfl
theorem pu_t211_188 : px_to 211 188 = px_c211_188 := by unfold px_to; rw [pu_b211]; rfl
theorem pu_t211_233 : px_to 211 233 = px_c211_233 := by unfold px_to; rw [pu_b211]; rfl
theorem pu_t211_246 : px_to 211 246 = px_c211_246 := by unfold px_to; rw [pu_b211]; rfl
theorem pu_t211_252 : px_to 211 252 = px_c211_252 := by unfold px_to; rw [pu_b211]; rfl
theorem pu_b212 : px_blk 212 = [(0, px_c212_0), (3, px_c212_3), (40, px_c212_40)] := rfl
theorem pu_t212_0 : px_to 212 0 = px_c212_0 := by unfold px_to; rw [pu_b212]; rfl
theorem pu_t212_3 : px_to 212 3 = px_c212_3 := by unfold px_to; rw [pu_b212]; rfl
theorem pu_t212_40 : px_to 212 40 = px_c212_40 := by unfold px_to; rw [pu_b212]; rfl
theorem pu_b213 : px_blk 213 = [(0, px_c213_0), (20, px_c213_20), (36, px_c213_36), (43, px_c213_43)] := rfl
theorem pu_t213_0 : px_to 213 0 = px_c213_0 := by unfold px_to; rw [pu_b213]; rfl
theorem pu_t213_20 : px_to 213 20 = px_c213_20 := by unfold px_to; rw [pu_b213]; rfl
theorem pu_t213_36 : px_to 213 36 = px_c213_36 := by unfold px_to; rw [pu_b213]; rfl
theorem pu_t213_43 : px_to 213 43 = px_c213_43 := by unfold px_to; rw [pu_b213]; rfl
theorem pu_b214 : px_blk 214 = [(0, px_c214_0), (20, px_c214_20), (36, px_c214_36), (43, px_c214_43)] := rfl
theorem pu_t214_0 : px_to 214 0 = px_c214_0 := by unfold px_to; rw [pu_b214]; rfl
theorem pu_t214_20 : px_to 214 20 = px_c214_20 := by unfold px_to; rw [pu_b214]; rfl
theorem pu_t214_36 : px_to 214 36 = px_c214_36 := by unfold px_to; rw [pu_b214]; rfl
theorem pu_t214_43 : px_to 214 43 = px_c214_43 := by unfold px_to; rw [pu_b214]; rfl
theorem pu_b215 : px_blk 215 = [(0, px_c215_0), (5, px_c215_5), (41, px_c215_41), (47, px_c215_47)] := rfl
theorem pu_t215_0 : px_to 215 0 = px_c215_0 := by unfold px_to; rw [pu_b215]; rfl
theorem pu_t215_5 : px_to 215 5 = px_c215_5 := by unfold px_to; rw [pu_b215]; rfl
theorem pu_t215_41 : px_to 215 41 = px_c215_41 := by unfold px_to; rw [pu_b215]; rfl
theorem pu_t215_47 : px_to 215 47 = px_c215_47 := by unfold px_to; rw [pu_b215]; rfl
theorem pu_b216 : px_blk 216 = [(0, px_c216_0), (25, px_c216_25), (30, px_c216_30)] := rfl
theorem pu_t216_0 : px_to 216 0 = px_c216_0 := by unfold px_to; rw [pu_b216]; rfl
theorem pu_t216_25 : px_to 216 25 = px_c216_25 := by unfold px_to; rw [pu_b216]; rfl
theorem pu_t216_30 : px_to 216 30 = px_c216_30 := by unfold px_to; rw [pu_b216]; rfl
theorem pu_b217 : px_blk 217 = [(0, px_c217_0), (2, px_c217_2), (15, px_c217_15), (51, px_c217_51), (69, px_c217_69)] := rfl
theorem pu_t217_0 : px_to 217 0 = px_c217_0 := by unfold px_to; rw [pu_b217]; rfl
theorem pu_t217_2 : px_to 217 2 = px_c217_2 := by unfold px_to; rw [pu_b217]; rfl
theorem pu_t217_15 : px_to 217 15 = px_c217_15 := by unfold px_to; rw [pu_b217]; rfl
theorem pu_t217_51 : px_to 217 51 = px_c217_51 := by unfold px_to; rw [pu_b217]; rfl
theorem pu_t217_69 : px_to 217 69 = px_c217_69 := by unfold px_to; rw [pu_b217]; rfl
theorem pu_b218 : px_blk 218 = [(0, px_c218_0), (2, px_c218_2), (26, px_c218_26), (63, px_c218_63), (69, px_c218_69), (75, px_c218_75)] := rfl
theorem pu_t218_0 : px_to 218 0 = px_c218_0 := by unfold px_to; rw [pu_b218]; rfl
theorem pu_t218_2 : px_to 218 2 = px_c218_2 := by unfold px_to; rw [pu_b218]; rfl
theorem pu_t218_26 : px_to 218 26 = px_c218_26 := by unfold px_to; rw [pu_b218]; rfl
theorem pu_t218_63 : px_to 218 63 = px_c218_63 := by unfold px_to; rw [pu_b218]; rfl
theorem pu_t218_69 : px_to 218 69 = px_c218_69 := by unfold px_to; rw [pu_b218]; rfl
theorem pu_t218_75 : px_to 218 75 = px_c218_75 := by unfold px_to; rw [pu_b218]; rfl
theorem pu_b219 : px_blk 219 = [(0, px_c219_0), (2, px_c219_2), (21, px_c219_21), (43, px_c219_43), (45, px_c219_45), (51, px_c219_51)] := rfl
theorem pu_t219_0 : px_to 219 0 = px_c219_0 := by unfold px_to; rw [pu_b219]; rfl
theorem pu_t219_2 : px_to 219 2 = px_c219_2 := by unfold px_to; rw [pu_b219]; rfl
theorem pu_t219_21 : px_to 219 21 = px_c219_21 := by unfold px_to; rw [pu_b219]; rfl
theorem pu_t219_43 : px_to 219 43 = px_c219_43 := by unfold px_to; rw [pu_b219]; rfl
theorem pu_t219_45 : px_to 219 45 = px_c219_45 := by unfold px_to; rw [pu_b219]; rfl
theorem pu_t219_51 : px_to 219 51 = px_c219_51 := by unfold px_to; rw [pu_b219]; rfl
theorem pu_b220 : px_blk 220 = [(0, px_c220_0), (12, px_c220_12), (89, px_c220_89), (93, px_c220_93), (97, px_c220_97), (108, px_c220_108), (109, px_c220_109), (119, px_c220_119), (145, px_c220_145), (149, px_c220_149), (155, px_c220_155)] := rfl
theorem pu_t220_0 : px_to 220 0 = px_c220_0 := by unfold px_to; rw [pu_b220]; rfl
theorem pu_t220_12 : px_to 220 12 = px_c220_12 := by unfold px_to; rw [pu_b220]; rfl
theorem pu_t220_89 : px_to 220 89 = px_c220_89 := by unfold px_to; rw [pu_b220]; rfl
theorem pu_t220_93 : px_to 220 93 = px_c220_93 := by unfold px_to; rw [pu_b220]; rfl
theorem pu_t220_97 : px_to 220 97 = px_c220_97 := by unfold px_to; rw [pu_b220]; rfl
theorem pu_t220_108 : px_to 220 108 = px_c220_108 := by unfold px_to; rw [pu_b220]; rfl
theorem pu_t220_109 : px_to 220 109 = px_c220_109 := by unfold px_to; rw [pu_b220]; rfl
theorem pu_t220_119 : px_to 220 119 = px_c220_119 := by unfold px_to; rw [pu_b220]; rfl
theorem pu_t220_145 : px_to 220 145 = px_c220_145 := by unfold px_to; rw [pu_b220]; rfl
theorem pu_t220_149 : px_to 220 149 = px_c220_149 := by unfold px_to; rw [pu_b220]; rfl
theorem pu_t220_155 : px_to 220 155 = px_c220_155 := by unfold px_to; rw [pu_b220]; rfl
theorem pu_b221 : px_blk 221 = [(0, px_c221_0), (14, px_c221_14), (29, px_c221_29), (53, px_c221_53), (55, px_c221_55)] := rfl
theorem pu_t221_0 : px_to 221 0 = px_c221_0 := by unfold px_to; rw [pu_b221]; rfl
theorem pu_t221_14 : px_to 221 14 = px_c221_14 := by unfold px_to; rw [pu_b221]; rfl
theorem pu_t221_29 : px_to 221 29 = px_c221_29 := by unfold px_to; rw [pu_b221]; rfl
theorem pu_t221_53 : px_to 221 53 = px_c221_53 := by unfold px_to; rw [pu_b221]; rfl
theorem pu_t221_55 : px_to 221 55 = px_c221_55 := by unfold px_to; rw [pu_b221]; rfl
theorem pu_b222 : px_blk 222 = [(0, px_c222_0)] := rfl
theorem pu_t222_0 : px_to 222 0 = px_c222_0 := by unfold px_to; rw [pu_b222]; rfl
theorem pu_b223 : px_blk 223 = [(0, px_c223_0)] := rfl
theorem pu_t223_0 : px_to 223 0 = px_c223_0 := by unfold px_to; rw [pu_b223]; rfl
theorem pu_b224 : px_blk 224 = [(0, px_c224_0)] := rfl
theorem pu_t224_0 : px_to 224 0 = px_c224_0 := by unfold px_to; rw [pu_b224]; rfl
theorem pu_b225 : px_blk 225 = [(0, px_c225_0), (14, px_c225_14), (29, px_c225_29), (40, px_c225_40), (63, px_c225_63), (78, px_c225_78), (93, px_c225_93), (147, px_c225_147), (151, px_c225_151), (157, px_c225_157), (165, px_c225_165), (198, px_c225_198), (209, px_c225_209), (210, px_c225_210), (211, px_c225_211), (217, px_c225_217)] := rfl
theorem pu_t225_0 : px_to 225 0 = px_c225_0 := by unfold px_to; rw [pu_b225]; rfl
theorem pu_t225_14 : px_to 225 14 = px_c225_14 := by unfold px_to; rw [pu_b225]; rfl
theorem pu_t225_29 : px_to 225 29 = px_c225_29 := by unfold px_to; rw [pu_b225]; rfl
theorem pu_t225_40 : px_to 225 40 = px_c225_40 := by unfold px_to; rw [pu_b225]; rfl
theorem pu_t225_63 : px_to 225 63 = px_c225_63 := by unfold px_to; rw [pu_b225]; rfl
theorem pu_t225_78 : px_to 225 78 = px_c225_78 := by unfold px_to; rw [pu_b225]; rfl
theorem pu_t225_93 : px_to 225 93 = px_c225_93 := by unfold px_to; rw [pu_b225]; rfl
theorem pu_t225_147 : px_to 225 147 = px_c225_147 := by unfold px_to; rw [pu_b225]; rfl
theorem pu_t225_151 : px_to 225 151 = px_c225_151 := by unfold px_to; rw [pu_b225]; rfl
theorem pu_t225_157 : px_to 225 157 = px_c225_157 := by unfold px_to; rw [pu_b225]; rfl
theorem pu_t225_165 : px_to 225 165 = px_c225_165 := by unfold px_to; rw [pu_b225]; rfl
theorem pu_t225_198 : px_to 225 198 = px_c225_198 := by unfold px_to; rw [pu_b225]; rfl
theorem pu_t225_209 : px_to 225 209 = px_c225_209 := by unfold px_to; rw [pu_b225]; rfl
theorem pu_t225_210 : px_to 225 210 = px_c225_210 := by unfold px_to; rw [pu_b225]; rfl
theorem pu_t225_211 : px_to 225 211 = px_c225_211 := by unfold px_to; rw [pu_b225]; rfl
theorem pu_t225_217 : px_to 225 217 = px_c225_217 := by unfold px_to; rw [pu_b225]; rfl
theorem pu_b226 : px_blk 226 = [(0, px_c226_0), (15, px_c226_15), (22, px_c226_22), (50, px_c226_50), (74, px_c226_74), (80, px_c226_80), (86, px_c226_86), (100, px_c226_100), (101, px_c226_101)] := rfl
theorem pu_t226_0 : px_to 226 0 = px_c226_0 := by unfold px_to; rw [pu_b226]; rfl
theorem pu_t226_15 : px_to 226 15 = px_c226_15 := by unfold px_to; rw [pu_b226]; rfl
theorem pu_t226_22 : px_to 226 22 = px_c226_22 := by unfold px_to; rw [pu_b226]; rfl
theorem pu_t226_50 : px_to 226 50 = px_c226_50 := by unfold px_to; rw [pu_b226]; rfl
theorem pu_t226_74 : px_to 226 74 = px_c226_74 := by unfold px_to; rw [pu_b226]; rfl
theorem pu_t226_80 : px_to 226 80 = px_c226_80 := by unfold px_to; rw [pu_b226]; rfl
theorem pu_t226_86 : px_to 226 86 = px_c226_86 := by unfold px_to; rw [pu_b226]; rfl
theorem pu_t226_100 : px_to 226 100 = px_c226_100 := by unfold px_to; rw [pu_b226]; rfl
theorem pu_t226_101 : px_to 226 101 = px_c226_101 := by unfold px_to; rw [pu_b226]; rfl
theorem pu_b227 : px_blk 227 = [(0, px_c227_0), (14, px_c227_14), (18, px_c227_18), (61, px_c227_61), (67, px_c227_67)] := rfl
theorem pu_t227_0 : px_to 227 0 = px_c227_0 := by unfold px_to; rw [pu_b227]; rfl
theorem pu_t227_14 : px_to 227 14 = px_c227_14 := by unfold px_to; rw [pu_b227]; rfl
theorem pu_t227_18 : px_to 227 18 = px_c227_18 := by unfold px_to; rw [pu_b227]; rfl
theorem pu_t227_61 : px_to 227 61 = px_c227_61 := by unfold px_to; rw [pu_b227]; rfl
theorem pu_t227_67 : px_to 227 67 = px_c227_67 := by unfold px_to; rw [pu_b227]; rfl
theorem pu_b228 : px_blk 228 = [(0, px_c228_0), (6, px_c228_6), (27, px_c228_27), (65, px_c228_65), (74, px_c228_74), (80, px_c228_80), (100, px_c228_100), (105, px_c228_105), (111, px_c228_111)] := rfl
theorem pu_t228_0 : px_to 228 0 = px_c228_0 := by unfold px_to; rw [pu_b228]; rfl
theorem pu_t228_6 : px_to 228 6 = px_c228_6 := by unfold px_to; rw [pu_b228]; rfl
theorem pu_t228_27 : px_to 228 27 = px_c228_27 := by unfold px_to; rw [pu_b228]; rfl
theorem pu_t228_65 : px_to 228 65 = px_c228_65 := by unfold px_to; rw [pu_b228]; rfl
theorem pu_t228_74 : px_to 228 74 = px_c228_74 := by unfold px_to; rw [pu_b228]; rfl
theorem pu_t228_80 : px_to 228 80 = px_c228_80 := by unfold px_to; rw [pu_b228]; rfl
theorem pu_t228_100 : px_to 228 100 = px_c228_100 := by unfold px_to; rw [pu_b228]; rfl
theorem pu_t228_105 : px_to 228 105 = px_c228_105 := by unfold px_to; rw [pu_b228]; rfl
theorem pu_t228_111 : px_to 228 111 = px_c228_111 := by unfold px_to; rw [pu_b228]; rfl
theorem pu_b229 : px_blk 229 = [(0, px_c229_0), (16, px_c229_16), (22, px_c229_22), (42, px_c229_42), (57, px_c229_57), (90, px_c229_90), (112, px_c229_112), (140, px_c229_140), (141, px_c229_141), (156, px_c229_156), (164, px_c229_164), (170, px_c229_170)] := rfl
theorem pu_t229_0 : px_to 229 0 = px_c229_0 := by unfold px_to; rw [pu_b229]; rfl
theorem pu_t229_16 : px_to 229 16 = px_c229_16 := by unfold px_to; rw [pu_b229]; rfl
theorem pu_t229_22 : px_to 229 22 = px_c229_22 := by unfold px_to; rw [pu_b229]; rfl
theorem pu_t229_42 : px_to 229 42 = px_c229_42 := by unfold px_to; rw [pu_b229]; rfl
theorem pu_t229_57 : px_to 229 57 = px_c229_57 := by unfold px_to; rw [pu_b229]; rfl
theorem pu_t229_90 : px_to 229 90 = px_c229_90 := by unfold px_to; rw [pu_b229]; rfl
theorem pu_t229_112 : px_to 229 112 = px_c229_112 := by unfold px_to; rw [pu_b229]; rfl
theorem pu_t229_140 : px_to 229 140 = px_c229_140 := by unfold px_to; rw [pu_b229]; rfl
theorem pu_t229_141 : px_to 229 141 = px_c229_141 := by unfold px_to; rw [pu_b229]; rfl
theorem pu_t229_156 : px_to 229 156 = px_c229_156 := by unfold px_to; rw [pu_b229]; rfl
theorem pu_t229_164 : px_to 229 164 = px_c229_164 := by unfold px_to; rw [pu_b229]; rfl
theorem pu_t229_170 : px_to 229 170 = px_c229_170 := by unfold px_to; rw [pu_b229]; rfl
theorem pu_b230 : px_blk 230 = [(0, px_c230_0), (12, px_c230_12), (18, px_c230_18), (33, px_c230_33), (44, px_c230_44), (49, px_c230_49), (98, px_c230_98), (104, px_c230_104)] := rfl
theorem pu_t230_0 : px_to 230 0 = px_c230_0 := by unfold px_to; rw [pu_b230]; rfl
theorem pu_t230_12 : px_to 230 12 = px_c230_12 := by unfold px_to; rw [pu_b230]; rfl
theorem pu_t230_18 : px_to 230 18 = px_c230_18 := by unfold px_to; rw [pu_b230]; rfl
theorem pu_t230_33 : px_to 230 33 = px_c230_33 := by unfold px_to; rw [pu_b230]; rfl
theorem pu_t230_44 : px_to 230 44 = px_c230_44 := by unfold px_to; rw [pu_b230]; rfl
theorem pu_t230_49 : px_to 230 49 = px_c230_49 := by unfold px_to; rw [pu_b230]; rfl
theorem pu_t230_98 : px_to 230 98 = px_c230_98 := by unfold px_to; rw [pu_b230]; rfl
theorem pu_t230_104 : px_to 230 104 = px_c230_104 := by unfold px_to; rw [pu_b230]; rfl
theorem pu_b231 : px_blk 231 = [(0, px_c231_0), (15, px_c231_15), (20, px_c231_20), (42, px_c231_42), (50, px_c231_50)] := rfl
theorem pu_t231_0 : px_to 231 0 = px_c231_0 := by unfold px_to; rw [pu_b231]; rfl
theorem pu_t231_15 : px_to 231 15 = px_c231_15 := by unfold px_to; rw [pu_b231]; rfl
theorem pu_t231_20 : px_to 231 20 = px_c231_20 := by unfold px_to; rw [pu_b231]; rfl
theorem pu_t231_42 : px_to 231 42 = px_c231_42 := by unfold px_to; rw [pu_b231]; rfl
theorem pu_t231_50 : px_to 231 50 = px_c231_50 := by unfold px_to; rw [pu_b231]; rfl
theorem pu_b232 : px_blk 232 = [(0, px_c232_0), (12, px_c232_12), (19, px_c232_19), (30, px_c232_30), (53, px_c232_53), (120, px_c232_120), (125, px_c232_125), (127, px_c232_127), (129, px_c232_129), (135, px_c232_135), (141, px_c232_141), (151, px_c232_151), (161, px_c232_161)] := rfl
theorem pu_t232_0 : px_to 232 0 = px_c232_0 := by unfold px_to; rw [pu_b232]; rfl
theorem pu_t232_12 : px_to 232 12 = px_c232_12 := by unfold px_to; rw [pu_b232]; rfl
theorem pu_t232_19 : px_to 232 19 = px_c232_19 := by unfold px_to; rw [pu_b232]; rfl
theorem pu_t232_30 : px_to 232 30 = px_c232_30 := by unfold px_to; rw [pu_b232]; rfl
theorem pu_t232_53 : px_to 232 53 = px_c232_53 := by unfold px_to; rw [pu_b232]; rfl
theorem pu_t232_120 : px_to 232 120 = px_c232_120 := by unfold px_to; rw [pu_b232]; rfl
theorem pu_t232_125 : px_to 232 125 = px_c232_125 := by unfold px_to; rw [pu_b232]; rfl
theorem pu_t232_127 : px_to 232 127 = px_c232_127 := by unfold px_to; rw [pu_b232]; rfl
theorem pu_t232_129 : px_to 232 129 = px_c232_129 := by unfold px_to; rw [pu_b232]; rfl
theorem pu_t232_135 : px_to 232 135 = px_c232_135 := by unfold px_to; rw [pu_b232]; rfl
theorem pu_t232_141 : px_to 232 141 = px_c232_141 := by unfold px_to; rw [pu_b232]; rfl
theorem pu_t232_151 : px_to 232 151 = px_c232_151 := by unfold px_to; rw [pu_b232]; rfl
theorem pu_t232_161 : px_to 232 161 = px_c232_161 := by unfold px_to; rw [pu_b232]; rfl
theorem pu_b233 : px_blk 233 = [(0, px_c233_0), (16, px_c233_16), (22, px_c233_22), (27, px_c233_27), (57, px_c233_57), (58, px_c233_58), (64, px_c233_64), (70, px_c233_70)] := rfl
theorem pu_t233_0 : px_to 233 0 = px_c233_0 := by unfold px_to; rw [pu_b233]; rfl
theorem pu_t233_16 : px_to 233 16 = px_c233_16 := by unfold px_to; rw [pu_b233]; rfl
theorem pu_t233_22 : px_to 233 22 = px_c233_22 := by unfold px_to; rw [pu_b233]; rfl
theorem pu_t233_27 : px_to 233 27 = px_c233_27 := by unfold px_to; rw [pu_b233]; rfl
theorem pu_t233_57 : px_to 233 57 = px_c233_57 := by unfold px_to; rw [pu_b233]; rfl
theorem pu_t233_58 : px_to 233 58 = px_c233_58 := by unfold px_to; rw [pu_b233]; rfl
theorem pu_t233_64 : px_to 233 64 = px_c233_64 := by unfold px_to; rw [pu_b233]; rfl
theorem pu_t233_70 : px_to 233 70 = px_c233_70 := by unfold px_to; rw [pu_b233]; rfl
theorem pu_b234 : px_blk 234 = [(0, px_c234_0), (16, px_c234_16), (22, px_c234_22), (24, px_c234_24), (50, px_c234_50), (51, px_c234_51), (65, px_c234_65)] := rfl
theorem pu_t234_0 : px_to 234 0 = px_c234_0 := by unfold px_to; rw [pu_b234]; rfl
theorem pu_t234_16 : px_to 234 16 = px_c234_16 := by unfold px_to; rw [pu_b234]; rfl
theorem pu_t234_22 : px_to 234 22 = px_c234_22 := by unfold px_to; rw [pu_b234]; rfl
theorem pu_t234_24 : px_to 234 24 = px_c234_24 := by unfold px_to; rw [pu_b234]; rfl
theorem pu_t234_50 : px_to 234 50 = px_c234_50 := by unfold px_to; rw [pu_b234]; rfl
theorem pu_t234_51 : px_to 234 51 = px_c234_51 := by unfold px_to; rw [pu_b234]; rfl
theorem pu_t234_65 : px_to 234 65 = px_c234_65 := by unfold px_to; rw [pu_b234]; rfl
theorem pu_b235 : px_blk 235 = [(0, px_c235_0), (16, px_c235_16), (22, px_c235_22), (42, px_c235_42), (49, px_c235_49), (67, px_c235_67), (74, px_c235_74), (89, px_c235_89), (92, px_c235_92), (120, px_c235_120), (121, px_c235_121), (140, px_c235_140), (146, px_c235_146)] := rfl
theorem pu_t235_0 : px_to 235 0 = px_c235_0 := by unfold px_to; rw [pu_b235]; rfl
theorem pu_t235_16 : px_to 235 16 = px_c235_16 := by unfold px_to; rw [pu_b235]; rfl
theorem pu_t235_22 : px_to 235 22 = px_c235_22 := by unfold px_to; rw [pu_b235]; rfl
theorem pu_t235_42 : px_to 235 42 = px_c235_42 := by unfold px_to; rw [pu_b235]; rfl
theorem pu_t235_49 : px_to 235 49 = px_c235_49 := by unfold px_to; rw [pu_b235]; rfl
theorem pu_t235_67 : px_to 235 67 = px_c235_67 := by unfold px_to; rw [pu_b235]; rfl
theorem pu_t235_74 : px_to 235 74 = px_c235_74 := by unfold px_to; rw [pu_b235]; rfl
theorem pu_t235_89 : px_to 235 89 = px_c235_89 := by unfold px_to; rw [pu_b235]; rfl
theorem pu_t235_92 : px_to 235 92 = px_c235_92 := by unfold px_to; rw [pu_b235]; rfl
theorem pu_t235_120 : px_to 235 120 = px_c235_120 := by unfold px_to; rw [pu_b235]; rfl
theorem pu_t235_121 : px_to 235 121 = px_c235_121 := by unfold px_to; rw [pu_b235]; rfl
theorem pu_t235_140 : px_to 235 140 = px_c235_140 := by unfold px_to; rw [pu_b235]; rfl
theorem pu_t235_146 : px_to 235 146 = px_c235_146 := by unfold px_to; rw [pu_b235]; rfl
theorem pu_b236 : px_blk 236 = [(0, px_c236_0), (19, px_c236_19)] := rfl
theorem pu_t236_0 : px_to 236 0 = px_c236_0 := by unfold px_to; rw [pu_b236]; rfl
theorem pu_t236_19 : px_to 236 19 = px_c236_19 := by unfold px_to; rw [pu_b236]; rfl
theorem pu_b237 : px_blk 237 = [(0, px_c237_0), (18, px_c237_18), (29, px_c237_29), (40, px_c237_40), (68, px_c237_68), (80, px_c237_80), (92, px_c237_92), (94, px_c237_94)] := rfl
theorem pu_t237_0 : px_to 237 0 = px_c237_0 := by unfold px_to; rw [pu_b237]; rfl
theorem pu_t237_18 : px_to 237 18 = px_c237_18 := by unfold px_to; rw [pu_b237]; rfl
theorem pu_t237_29 : px_to 237 29 = px_c237_29 := by unfold px_to; rw [pu_b237]; rfl
theorem pu_t237_40 : px_to 237 40 = px_c237_40 := by unfold px_to; rw [pu_b237]; rfl
theorem pu_t237_68 : px_to 237 68 = px_c237_68 := by unfold px_to; rw [pu_b237]; rfl
theorem pu_t237_80 : px_to 237 80 = px_c237_80 := by unfold px_to; rw [pu_b237]; rfl
theorem pu_t237_92 : px_to 237 92 = px_c237_92 := by unfold px_to; rw [pu_b237]; rfl
theorem pu_t237_94 : px_to 237 94 = px_c237_94 := by unfold px_to; rw [pu_b237]; rfl
theorem pu_b238 : px_blk 238 = [(0, px_c238_0), (26, px_c238_26), (41, px_c238_41), (45, px_c238_45), (46, px_c238_46), (59, px_c238_59), (71, px_c238_71), (100, px_c238_100), (113, px_c238_113), (115, px_c238_115)] := rfl
theorem pu_t238_0 : px_to 238 0 = px_c238_0 := by unfold px_to; rw [pu_b238]; rfl
theorem pu_t238_26 : px_to 238 26 = px_c238_26 := by unfold px_to; rw [pu_b238]; rfl
theorem pu_t238_41 : px_to 238 41 = px_c238_41 := by unfold px_to; rw [pu_b238]; rfl
theorem pu_t238_45 : px_to 238 45 = px_c238_45 := by unfold px_to; rw [pu_b238]; rfl
theorem pu_t238_46 : px_to 238 46 = px_c238_46 := by unfold px_to; rw [pu_b238]; rfl
theorem pu_t238_59 : px_to 238 59 = px_c238_59 := by unfold px_to; rw [pu_b238]; rfl
theorem pu_t238_71 : px_to 238 71 = px_c238_71 := by unfold px_to; rw [pu_b238]; rfl
theorem pu_t238_100 : px_to 238 100 = px_c238_100 := by unfold px_to; rw [pu_b238]; rfl
theorem pu_t238_113 : px_to 238 113 = px_c238_113 := by unfold px_to; rw [pu_b238]; rfl
theorem pu_t238_115 : px_to 238 115 = px_c238_115 := by unfold px_to; rw [pu_b238]; rfl
theorem pu_b239 : px_blk 239 = [(0, px_c239_0), (21, px_c239_21), (43, px_c239_43), (88, px_c239_88), (90, px_c239_90)] := rfl
theorem pu_t239_0 : px_to 239 0 = px_c239_0 := by unfold px_to; rw [pu_b239]; rfl
theorem pu_t239_21 : px_to 239 21 = px_c239_21 := by unfold px_to; rw [pu_b239]; rfl
theorem pu_t239_43 : px_to 239 43 = px_c239_43 := by unfold px_to; rw [pu_b239]; rfl
theorem pu_t239_88 : px_to 239 88 = px_c239_88 := by unfold px_to; rw [pu_b239]; rfl
theorem pu_t239_90 : px_to 239 90 = px_c239_90 := by unfold px_to; rw [pu_b239]; rfl
theorem pu_b240 : px_blk 240 = [(0, px_c240_0), (32, px_c240_32), (34, px_c240_34), (47, px_c240_47), (61, px_c240_61), (67, px_c240_67)] := rfl
theorem pu_t240_0 : px_to 240 0 = px_c240_0 := by unfold px_to; rw [pu_b240]; rfl
theorem pu_t240_32 : px_to 240 32 = px_c240_32 := by unfold px_to; rw [pu_b240]; rfl
theorem pu_t240_34 : px_to 240 34 = px_c240_34 := by unfold px_to; rw [pu_b240]; rfl
theorem pu_t240_47 : px_to 240 47 = px_c240_47 := by unfold px_to; rw [pu_b240]; rfl
theorem pu_t240_61 : px_to 240 61 = px_c240_61 := by unfold px_to; rw [pu_b240]; rfl
theorem pu_t240_67 : px_to 240 67 = px_c240_67 := by unfold px_to; rw [pu_b240]; rfl
theorem pu_b241 : px_blk 241 = [(0, px_c241_0), (27, px_c241_27), (28, px_c241_28)] := rfl
theorem pu_t241_0 : px_to 241 0 = px_c241_0 := by unfold px_to; rw [pu_b241]; rfl
theorem pu_t241_27 : px_to 241 27 = px_c241_27 := by unfold px_to; rw [pu_b241]; rfl
theorem pu_t241_28 : px_to 241 28 = px_c241_28 := by unfold px_to; rw [pu_b241]; rfl
theorem pu_b242 : px_blk 242 = [(0, px_c242_0), (3, px_c242_3), (30, px_c242_30), (43, px_c242_43), (49, px_c242_49)] := rfl
theorem pu_t242_0 : px_to 242 0 = px_c242_0 := by unfold px_to; rw [pu_b242]; rfl
theorem pu_t242_3 : px_to 242 3 = px_c242_3 := by unfold px_to; rw [pu_b242]; rfl
theorem pu_t242_30 : px_to 242 30 = px_c242_30 := by unfold px_to; rw [pu_b242]; rfl
theorem pu_t242_43 : px_to 242 43 = px_c242_43 := by unfold px_to; rw [pu_b242]; rfl
theorem pu_t242_49 : px_to 242 49 = px_c242_49 := by unfold px_to; rw [pu_b242]; rfl
theorem pu_b243 : px_blk 243 = [(0, px_c243_0), (80, px_c243_80), (163, px_c243_163)] := rfl
theorem pu_t243_0 : px_to 243 0 = px_c243_0 := by unfold px_to; rw [pu_b243]; rfl
theorem pu_t243_80 : px_to 243 80 = px_c243_80 := by unfold px_to; rw [pu_b243]; rfl
theorem pu_t243_163 : px_to 243 163 = px_c243_163 := by unfold px_to; rw [pu_b243]; rfl
theorem pu_b244 : px_blk 244 = [(0, px_c244_0)] := rfl
theorem pu_t244_0 : px_to 244 0 = px_c244_0 := by unfold px_to; rw [pu_b244]; rfl
theorem pu_b245 : px_blk 245 = [(0, px_c245_0), (14, px_c245_14)] := rfl
theorem pu_t245_0 : px_to 245 0 = px_c245_0 := by unfold px_to; rw [pu_b245]; rfl
theorem pu_t245_14 : px_to 245 14 = px_c245_14 := by unfold px_to; rw [pu_b245]; rfl
theorem pu_b246 : px_blk 246 = [(0, px_c246_0), (22, px_c246_22), (76, px_c246_76), (81, px_c246_81), (86, px_c246_86), (95, px_c246_95), (99, px_c246_99), (122, px_c246_122), (128, px_c246_128), (136, px_c246_136), (138, px_c246_138), (143, px_c246_143), (148, px_c246_148), (153, px_c246_153), (158, px_c246_158), (163, px_c246_163), (168, px_c246_168)] := rfl
theorem pu_t246_0 : px_to 246 0 = px_c246_0 := by unfold px_to; rw [pu_b246]; rfl
theorem pu_t246_22 : px_to 246 22 = px_c246_22 := by unfold px_to; rw [pu_b246]; rfl
theorem pu_t246_76 : px_to 246 76 = px_c246_76 := by unfold px_to; rw [pu_b246]; rfl
theorem pu_t246_81 : px_to 246 81 = px_c246_81 := by unfold px_to; rw [pu_b246]; rfl
theorem pu_t246_86 : px_to 246 86 = px_c246_86 := by unfold px_to; rw [pu_b246]; rfl
theorem pu_t246_95 : px_to 246 95 = px_c246_95 := by unfold px_to; rw [pu_b246]; rfl
theorem pu_t246_99 : px_to 246 99 = px_c246_99 := by unfold px_to; rw [pu_b246]; rfl
theorem pu_t246_122 : px_to 246 122 = px_c246_122 := by unfold px_to; rw [pu_b246]; rfl
theorem pu_t246_128 : px_to 246 128 = px_c246_128 := by unfold px_to; rw [pu_b246]; rfl
theorem pu_t246_136 : px_to 246 136 = px_c246_136 := by unfold px_to; rw [pu_b246]; rfl
theorem pu_t246_138 : px_to 246 138 = px_c246_138 := by unfold px_to; rw [pu_b246]; rfl
theorem pu_t246_143 : px_to 246 143 = px_c246_143 := by unfold px_to; rw [pu_b246]; rfl
theorem pu_t246_148 : px_to 246 148 = px_c246_148 := by unfold px_to; rw [pu_b246]; rfl
theorem pu_t246_153 : px_to 246 153 = px_c246_153 := by unfold px_to; rw [pu_b246]; rfl
theorem pu_t246_158 : px_to 246 158 = px_c246_158 := by unfold px_to; rw [pu_b246]; rfl
theorem pu_t246_163 : px_to 246 163 = px_c246_163 := by unfold px_to; rw [pu_b246]; rfl
theorem pu_t246_168 : px_to 246 168 = px_c246_168 := by unfold px_to; rw [pu_b246]; rfl
theorem pu_b247 : px_blk 247 = [(0, px_c247_0)] := rfl
theorem pu_t247_0 : px_to 247 0 = px_c247_0 := by unfold px_to; rw [pu_b247]; rfl
theorem pu_b251 : px_blk 251 = [(0, px_c251_0)] := rfl
theorem pu_t251_0 : px_to 251 0 = px_c251_0 := by unfold px_to; rw [pu_b251]; rfl
theorem pu_b252 : px_blk 252 = [(0, px_c252_0), (16, px_c252_16)] := rfl
theorem pu_t252_0 : px_to 252 0 = px_c252_0 := by unfold px_to; rw [pu_b252]; rfl
theorem pu_t252_16 : px_to 252 16 = px_c252_16 := by unfold px_to; rw [pu_b252]; rfl
theorem pu_b253 : px_blk 253 = [(0, px_c253_0), (13, px_c253_13), (14, px_c253_14)] := rfl
theorem pu_t253_0 : px_to 253 0 = px_c253_0 := by unfold px_to; rw [pu_b253]; rfl
theorem pu_t253_13 : px_to 253 13 = px_c253_13 := by unfold px_to; rw [pu_b253]; rfl
theorem pu_t253_14 : px_to 253 14 = px_c253_14 := by unfold px_to; rw [pu_b253]; rfl
theorem pu_b254 : px_blk 254 = [(0, px_c254_0), (17, px_c254_17), (18, px_c254_18)] := rfl
theorem pu_t254_0 : px_to 254 0 = px_c254_0 := by unfold px_to; rw [pu_b254]; rfl
theorem pu_t254_17 : px_to 254 17 = px_c254_17 := by unfold px_to; rw [pu_b254]; rfl
theorem pu_t254_18 : px_to 254 18 = px_c254_18 := by unfold px_to; rw [pu_b254]; rfl
theorem pu_b255 : px_blk 255 = [(0, px_c255_0)] := rfl
theorem pu_t255_0 : px_to 255 0 = px_c255_0 := by unfold px_to; rw [pu_b255]; rfl
theorem pu_b256 : px_blk 256 = [(0, px_c256_0)] := rfl
theorem pu_t256_0 : px_to 256 0 = px_c256_0 := by unfold px_to; rw [pu_b256]; rfl
theorem pu_b257 : px_blk 257 = [(0, px_c257_0), (6, px_c257_6), (22, px_c257_22)] := rfl
theorem pu_t257_0 : px_to 257 0 = px_c257_0 := by unfold px_to; rw [pu_b257]; rfl
theorem pu_t257_6 : px_to 257 6 = px_c257_6 := by unfold px_to; rw [pu_b257]; rfl
theorem pu_t257_22 : px_to 257 22 = px_c257_22 := by unfold px_to; rw [pu_b257]; rfl
theorem pu_b258 : px_blk 258 = [(0, px_c258_0), (5, px_c258_5), (20, px_c258_20)] := rfl
theorem pu_t258_0 : px_to 258 0 = px_c258_0 := by unfold px_to; rw [pu_b258]; rfl
theorem pu_t258_5 : px_to 258 5 = px_c258_5 := by unfold px_to; rw [pu_b258]; rfl
theorem pu_t258_20 : px_to 258 20 = px_c258_20 := by unfold px_to; rw [pu_b258]; rfl
theorem pu_b259 : px_blk 259 = [(0, px_c259_0), (9, px_c259_9), (16, px_c259_16)] := rfl
theorem pu_t259_0 : px_to 259 0 = px_c259_0 := by unfold px_to; rw [pu_b259]; rfl
theorem pu_t259_9 : px_to 259 9 = px_c259_9 := by unfold px_to; rw [pu_b259]; rfl
theorem pu_t259_16 : px_to 259 16 = px_c259_16 := by unfold px_to; rw [pu_b259]; rfl
theorem pu_b260 : px_blk 260 = [(0, px_c260_0), (18, px_c260_18), (220, px_c260_220), (263, px_c260_263), (319, px_c260_319), (336, px_c260_336), (399, px_c260_399), (433, px_c260_433), (476, px_c260_476), (499, px_c260_499), (532, px_c260_532), (585, px_c260_585), (618, px_c260_618), (651, px_c260_651), (684, px_c260_684), (727, px_c260_727), (760, px_c260_760), (783, px_c260_783), (796, px_c260_796), (829, px_c260_829), (862, px_c260_862), (895, px_c260_895), (913, px_c260_913), (914, px_c260_914), (935, px_c260_935), (936, px_c260_936), (944, px_c260_944), (997, px_c260_997), (1050, px_c260_1050), (1093, px_c260_1093), (1136, px_c260_1136), (1169, px_c260_1169), (1202, px_c260_1202), (1235, px_c260_1235), (1268, px_c260_1268), (1301, px_c260_1301), (1324, px_c260_1324), (1347, px_c260_1347), (1360, px_c260_1360), (1403, px_c260_1403), (1436, px_c260_1436), (1459, px_c260_1459), (1477, px_c260_1477), (1478, px_c260_1478), (1499, px_c260_1499), (1500, px_c260_1500), (1508, px_c260_1508), (1541, px_c260_1541), (1574, px_c260_1574), (1617, px_c260_1617), (1660, px_c260_1660), (1683, px_c260_1683), (1696, px_c260_1696), (1709, px_c260_1709), (1732, px_c260_1732), (1738, px_c260_1738)] := rfl
theorem pu_t260_0 : px_to 260 0 = px_c260_0 := by unfold px_to; rw [pu_b260]; rfl
theorem pu_t260_18 : px_to 260 18 = px_c260_18 := by unfold px_to; rw [pu_b260]; rfl
theorem pu_t260_220 : px_to 260 220 = px_c260_220 := by unfold px_to; rw [pu_b260]; rfl
theorem pu_t260_263 : px_to 260 263 = px_c260_263 := by unfold px_to; rw [pu_b260]; rfl
theorem pu_t260_319 : px_to 260 319 = px_c260_319 := by unfold px_to; rw [pu_b260]; rfl
theorem pu_t260_336 : px_to 260 336 = px_c260_336 := by unfold px_to; rw [pu_b260]; rfl
theorem pu_t260_399 : px_to 260 399 = px_c260_399 := by unfold px_to; rw [pu_b260]; rfl
theorem pu_t260_433 : px_to 260 433 = px_c260_433 := by unfold px_to; rw [pu_b260]; rfl
theorem pu_t260_476 : px_to 260 476 = px_c260_476 := by unfold px_to; rw [pu_b260]; rfl
theorem pu_t260_499 : px_to 260 499 = px_c260_499 := by unfold px_to; rw [pu_b260]; rfl
theorem pu_t260_532 : px_to 260 532 = px_c260_532 := by unfold px_to; rw [pu_b260]; rfl
theorem pu_t260_585 : px_to 260 585 = px_c260_585 := by unfold px_to; rw [pu_b260]; rfl
theorem pu_t260_618 : px_to 260 618 = px_c260_618 := by unfold px_to; rw [pu_b260]; rfl
theorem pu_t260_651 : px_to 260 651 = px_c260_651 := by unfold px_to; rw [pu_b260]; rfl
theorem pu_t260_684 : px_to 260 684 = px_c260_684 := by unfold px_to; rw [pu_b260]; rfl
theorem pu_t260_727 : px_to 260 727 = px_c260_727 := by unfold px_to; rw [pu_b260]; rfl
theorem pu_t260_760 : px_to 260 760 = px_c260_760 := by unfold px_to; rw [pu_b260]; rfl
theorem pu_t260_783 : px_to 260 783 = px_c260_783 := by unfold px_to; rw [pu_b260]; rfl
theorem pu_t260_796 : px_to 260 796 = px_c260_796 := by unfold px_to; rw [pu_b260]; rfl
theorem pu_t260_829 : px_to 260 829 = px_c260_829 := by unfold px_to; rw [pu_b260]; rfl
theorem pu_t260_862 : px_to 260 862 = px_c260_862 := by unfold px_to; rw [pu_b260]; rfl
theorem pu_t260_895 : px_to 260 895 = px_c260_895 := by unfold px_to; rw [pu_b260]; rfl
theorem pu_t260_913 : px_to 260 913 = px_c260_913 := by unfold px_to; rw [pu_b260]; rfl
theorem pu_t260_914 : px_to 260 914 = px_c260_914 := by unfold px_to; rw [pu_b260]; rfl
theorem pu_t260_935 : px_to 260 935 = px_c260_935 := by unfold px_to; rw [pu_b260]; rfl
theorem pu_t260_936 : px_to 260 936 = px_c260_936 := by unfold px_to; rw [pu_b260]; rfl
theorem pu_t260_944 : px_to 260 944 = px_c260_944 := by unfold px_to; rw [pu_b260]; rfl
theorem pu_t260_997 : px_to 260 997 = px_c260_997 := by unfold px_to; rw [pu_b260]; rfl
theorem pu_t260_1050 : px_to 260 1050 = px_c260_1050 := by unfold px_to; rw [pu_b260]; rfl
theorem pu_t260_1093 : px_to 260 1093 = px_c260_1093 := by unfold px_to; rw [pu_b260]; rfl
theorem pu_t260_1136 : px_to 260 1136 = px_c260_1136 := by unfold px_to; rw [pu_b260]; rfl
theorem pu_t260_1169 : px_to 260 1169 = px_c260_1169 := by unfold px_to; rw [pu_b260]; rfl
theorem pu_t260_1202 : px_to 260 1202 = px_c260_1202 := by unfold px_to; rw [pu_b260]; rfl
theorem pu_t260_1235 : px_to 260 1235 = px_c260_1235 := by unfold px_to; rw [pu_b260]; rfl
theorem pu_t260_1268 : px_to 260 1268 = px_c260_1268 := by unfold px_to; rw [pu_b260]; rfl
theorem pu_t260_1301 : px_to 260 1301 = px_c260_1301 := by unfold px_to; rw [pu_b260]; rfl
theorem pu_t260_1324 : px_to 260 1324 = px_c260_1324 := by unfold px_to; rw [pu_b260]; rfl
theorem pu_t260_1347 : px_to 260 1347 = px_c260_1347 := by unfold px_to; rw [pu_b260]; rfl
theorem pu_t260_1360 : px_to 260 1360 = px_c260_1360 := by unfold px_to; rw [pu_b260]; rfl
theorem pu_t260_1403 : px_to 260 1403 = px_c260_1403 := by unfold px_to; rw [pu_b260]; rfl
theorem pu_t260_1436 : px_to 260 1436 = px_c260_1436 := by unfold px_to; rw [pu_b260]; rfl
theorem pu_t260_1459 : px_to 260 1459 = px_c260_1459 := by unfold px_to; rw [pu_b260]; rfl
theorem pu_t260_1477 : px_to 260 1477 = px_c260_1477 := by unfold px_to; rw [pu_b260]; rfl
theorem pu_t260_1478 : px_to 260 1478 = px_c260_1478 := by unfold px_to; rw [pu_b260]; rfl
theorem pu_t260_1499 : px_to 260 1499 = px_c260_1499 := by unfold px_to; rw [pu_b260]; rfl
theorem pu_t260_1500 : px_to 260 1500 = px_c260_1500 := by unfold px_to; rw [pu_b260]; rfl
theorem pu_t260_1508 : px_to 260 1508 = px_c260_1508 := by unfold px_to; rw [pu_b260]; rfl
theorem pu_t260_1541 : px_to 260 1541 = px_c260_1541 := by unfold px_to; rw [pu_b260]; rfl
theorem pu_t260_1574 : px_to 260 1574 = px_c260_1574 := by unfold px_to; rw [pu_b260]; rfl
theorem pu_t260_1617 : px_to 260 1617 = px_c260_1617 := by unfold px_to; rw [pu_b260]; rfl
theorem pu_t260_1660 : px_to 260 1660 = px_c260_1660 := by unfold px_to; rw [pu_b260]; rfl
theorem pu_t260_1683 : px_to 260 1683 = px_c260_1683 := by unfold px_to; rw [pu_b260]; rfl
theorem pu_t260_1696 : px_to 260 1696 = px_c260_1696 := by unfold px_to; rw [pu_b260]; rfl
theorem pu_t260_1709 : px_to 260 1709 = px_c260_1709 := by unfold px_to; rw [pu_b260]; rfl
theorem pu_t260_1732 : px_to 260 1732 = px_c260_1732 := by unfold px_to; rw [pu_b260]; rfl
theorem pu_t260_1738 : px_to 260 1738 = px_c260_1738 := by unfold px_to; rw [pu_b260]; rfl
