set_option maxRecDepth 20000 in
theorem px_f0_0 : px_fine 0 px_c0_0 := px_fine_add (n := 19) (t := []) (by decide +kernel) rfl (px_fine_nil 0)
set_option maxRecDepth 20000 in
theorem px_f1_0 : px_fine 1 px_c1_0 := px_fine_add (n := 4) (t := []) (by decide +kernel) rfl (px_fine_nil 1)
set_option maxRecDepth 20000 in
theorem px_f2_0 : px_fine 2 px_c2_0 := px_fine_add (n := 10) (t := []) (by decide +kernel) rfl (px_fine_nil 2)
set_option maxRecDepth 20000 in
theorem px_f3_31 : px_fine 3 px_c3_31 := px_fine_add (n := 1) (t := []) (by decide +kernel) rfl (px_fine_nil 3)
set_option maxRecDepth 20000 in
theorem px_f3_30 : px_fine 3 px_c3_30 := px_fine_add (n := 1) (t := px_c3_31) (by decide +kernel) rfl (px_f3_31)
set_option maxRecDepth 20000 in
theorem px_f3_0 : px_fine 3 px_c3_0 := px_fine_add (n := 16) (t := px_c3_30) (by decide +kernel) rfl (px_f3_30)
set_option maxRecDepth 20000 in
theorem px_f4_22 : px_fine 4 px_c4_22 := px_fine_add (n := 7) (t := []) (by decide +kernel) rfl (px_fine_nil 4)
set_option maxRecDepth 20000 in
theorem px_f4_0 : px_fine 4 px_c4_0 := px_fine_add (n := 12) (t := px_c4_22) (by decide +kernel) rfl (px_f4_22)
set_option maxRecDepth 20000 in
theorem px_f5_110 : px_fine 5 px_c5_110 := px_fine_add (n := 2) (t := []) (by decide +kernel) rfl (px_fine_nil 5)
set_option maxRecDepth 20000 in
theorem px_f5_106 : px_fine 5 px_c5_106 := px_fine_add (n := 4) (t := px_c5_110) (by decide +kernel) rfl (px_f5_110)
set_option maxRecDepth 20000 in
theorem px_f5_99 : px_fine 5 px_c5_99 := px_fine_add (n := 5) (t := px_c5_106) (by decide +kernel) rfl (px_f5_106)
set_option maxRecDepth 20000 in
theorem px_f5_92 : px_fine 5 px_c5_92 := px_fine_add (n := 5) (t := px_c5_99) (by decide +kernel) rfl (px_f5_99)
set_option maxRecDepth 20000 in
theorem px_f5_42 : px_fine 5 px_c5_42 := px_fine_add (n := 11) (t := px_c5_92) (by decide +kernel) rfl (px_f5_92)
set_option maxRecDepth 20000 in
theorem px_f5_28 : px_fine 5 px_c5_28 := px_fine_add (n := 7) (t := px_c5_42) (by decide +kernel) rfl (px_f5_42)
set_option maxRecDepth 20000 in
theorem px_f5_14 : px_fine 5 px_c5_14 := px_fine_add (n := 7) (t := px_c5_28) (by decide +kernel) rfl (px_f5_28)
set_option maxRecDepth 20000 in
theorem px_f5_0 : px_fine 5 px_c5_0 := px_fine_add (n := 7) (t := px_c5_14) (by decide +kernel) rfl (px_f5_14)
set_option maxRecDepth 20000 in
theorem px_f6_121 : px_fine 6 px_c6_121 := px_fine_add (n := 1) (t := []) (by decide +kernel) rfl (px_fine_nil 6)
set_option maxRecDepth 20000 in
theorem px_f6_120 : px_fine 6 px_c6_120 := px_fine_add (n := 1) (t := px_c6_121) (by decide +kernel) rfl (px_f6_121)
set_option maxRecDepth 20000 in
theorem px_f6_105 : px_fine 6 px_c6_105 := px_fine_add (n := 8) (t := px_c6_120) (by decide +kernel) rfl (px_f6_120)
set_option maxRecDepth 20000 in
theorem px_f6_91 : px_fine 6 px_c6_91 := px_fine_add (n := 10) (t := px_c6_105) (by decide +kernel) rfl (px_f6_105)
set_option maxRecDepth 20000 in
theorem px_f6_90 : px_fine 6 px_c6_90 := px_fine_add (n := 1) (t := px_c6_91) (by decide +kernel) rfl (px_f6_91)
set_option maxRecDepth 20000 in
theorem px_f6_69 : px_fine 6 px_c6_69 := px_fine_add (n := 12) (t := px_c6_90) (by decide +kernel) rfl (px_f6_90)
set_option maxRecDepth 20000 in
theorem px_f6_54 : px_fine 6 px_c6_54 := px_fine_add (n := 7) (t := px_c6_69) (by decide +kernel) rfl (px_f6_69)
set_option maxRecDepth 20000 in
theorem px_f6_44 : px_fine 6 px_c6_44 := px_fine_add (n := 5) (t := px_c6_54) (by decide +kernel) rfl (px_f6_54)
set_option maxRecDepth 20000 in
theorem px_f6_29 : px_fine 6 px_c6_29 := px_fine_add (n := 8) (t := px_c6_44) (by decide +kernel) rfl (px_f6_44)
set_option maxRecDepth 20000 in
theorem px_f6_28 : px_fine 6 px_c6_28 := px_fine_add (n := 1) (t := px_c6_29) (by decide +kernel) rfl (px_f6_29)
set_option maxRecDepth 20000 in
theorem px_f6_24 : px_fine 6 px_c6_24 := px_fine_add (n := 2) (t := px_c6_28) (by decide +kernel) rfl (px_f6_28)
set_option maxRecDepth 20000 in
theorem px_f6_0 : px_fine 6 px_c6_0 := px_fine_add (n := 12) (t := px_c6_24) (by decide +kernel) rfl (px_f6_24)
set_option maxRecDepth 20000 in
theorem px_f7_91 : px_fine 7 px_c7_91 := px_fine_add (n := 1) (t := []) (by decide +kernel) rfl (px_fine_nil 7)
set_option maxRecDepth 20000 in
theorem px_f7_89 : px_fine 7 px_c7_89 := px_fine_add (n := 1) (t := px_c7_91) (by decide +kernel) rfl (px_f7_91)
set_option maxRecDepth 20000 in
theorem px_f7_48 : px_fine 7 px_c7_48 := px_fine_add (n := 24) (t := px_c7_89) (by decide +kernel) rfl (px_f7_89)
set_option maxRecDepth 20000 in
theorem px_f7_47 : px_fine 7 px_c7_47 := px_fine_add (n := 1) (t := px_c7_48) (by decide +kernel) rfl (px_f7_48)
set_option maxRecDepth 20000 in
theorem px_f7_29 : px_fine 7 px_c7_29 := px_fine_add (n := 9) (t := px_c7_47) (by decide +kernel) rfl (px_f7_47)
set_option maxRecDepth 20000 in
theorem px_f7_14 : px_fine 7 px_c7_14 := px_fine_add (n := 7) (t := px_c7_29) (by decide +kernel) rfl (px_f7_29)
set_option maxRecDepth 20000 in
theorem px_f7_0 : px_fine 7 px_c7_0 := px_fine_add (n := 7) (t := px_c7_14) (by decide +kernel) rfl (px_f7_14)
set_option maxRecDepth 20000 in
theorem px_f8_0 : px_fine 8 px_c8_0 := px_fine_add (n := 34) (t := []) (by decide +kernel) rfl (px_fine_nil 8)
set_option maxRecDepth 20000 in
theorem px_f9_194 : px_fine 9 px_c9_194 := px_fine_add (n := 1) (t := []) (by decide +kernel) rfl (px_fine_nil 9)
set_option maxRecDepth 20000 in
theorem px_f9_163 : px_fine 9 px_c9_163 := px_fine_add (n := 16) (t := px_c9_194) (by decide +kernel) rfl (px_f9_194)
set_option maxRecDepth 20000 in
theorem px_f9_160 : px_fine 9 px_c9_160 := px_fine_add (n := 2) (t := px_c9_163) (by decide +kernel) rfl (px_f9_163)
set_option maxRecDepth 20000 in
theorem px_f9_154 : px_fine 9 px_c9_154 := px_fine_add (n := 2) (t := px_c9_160) (by decide +kernel) rfl (px_f9_160)
set_option maxRecDepth 20000 in
theorem px_f9_116 : px_fine 9 px_c9_116 := px_fine_add (n := 20) (t := px_c9_154) (by decide +kernel) rfl (px_f9_154)
set_option maxRecDepth 20000 in
theorem px_f9_98 : px_fine 9 px_c9_98 := px_fine_add (n := 11) (t := px_c9_116) (by decide +kernel) rfl (px_f9_116)
set_option maxRecDepth 20000 in
theorem px_f9_96 : px_fine 9 px_c9_96 := px_fine_add (n := 1) (t := px_c9_98) (by decide +kernel) rfl (px_f9_98)
set_option maxRecDepth 20000 in
theorem px_f9_80 : px_fine 9 px_c9_80 := px_fine_add (n := 8) (t := px_c9_96) (by decide +kernel) rfl (px_f9_96)
set_option maxRecDepth 20000 in
theorem px_f9_74 : px_fine 9 px_c9_74 := px_fine_add (n := 4) (t := px_c9_80) (by decide +kernel) rfl (px_f9_80)
set_option maxRecDepth 20000 in
theorem px_f9_38 : px_fine 9 px_c9_38 := px_fine_add (n := 17) (t := px_c9_74) (by decide +kernel) rfl (px_f9_74)
set_option maxRecDepth 20000 in
theorem px_f9_0 : px_fine 9 px_c9_0 := px_fine_add (n := 18) (t := px_c9_38) (by decide +kernel) rfl (px_f9_38)
set_option maxRecDepth 20000 in
theorem px_f10_80 : px_fine 10 px_c10_80 := px_fine_add (n := 2) (t := []) (by decide +kernel) rfl (px_fine_nil 10)
set_option maxRecDepth 20000 in
theorem px_f10_74 : px_fine 10 px_c10_74 := px_fine_add (n := 2) (t := px_c10_80) (by decide +kernel) rfl (px_f10_80)
set_option maxRecDepth 20000 in
theorem px_f10_64 : px_fine 10 px_c10_64 := px_fine_add (n := 5) (t := px_c10_74) (by decide +kernel) rfl (px_f10_74)
set_option maxRecDepth 20000 in
theorem px_f10_63 : px_fine 10 px_c10_63 := px_fine_add (n := 1) (t := px_c10_64) (by decide +kernel) rfl (px_f10_64)
set_option maxRecDepth 20000 in
theorem px_f10_59 : px_fine 10 px_c10_59 := px_fine_add (n := 2) (t := px_c10_63) (by decide +kernel) rfl (px_f10_63)
set_option maxRecDepth 20000 in
theorem px_f10_35 : px_fine 10 px_c10_35 := px_fine_add (n := 12) (t := px_c10_59) (by decide +kernel) rfl (px_f10_59)
set_option maxRecDepth 20000 in
theorem px_f10_5 : px_fine 10 px_c10_5 := px_fine_add (n := 16) (t := px_c10_35) (by decide +kernel) rfl (px_f10_35)
set_option maxRecDepth 20000 in
theorem px_f10_0 : px_fine 10 px_c10_0 := px_fine_add (n := 4) (t := px_c10_5) (by decide +kernel) rfl (px_f10_5)
set_option maxRecDepth 20000 in
theorem px_f11_50 : px_fine 11 px_c11_50 := px_fine_add (n := 1) (t := []) (by decide +kernel) rfl (px_fine_nil 11)
set_option maxRecDepth 20000 in
theorem px_f11_49 : px_fine 11 px_c11_49 := px_fine_add (n := 1) (t := px_c11_50) (by decide +kernel) rfl (px_f11_50)
set_option maxRecDepth 20000 in
theorem px_f11_32 : px_fine 11 px_c11_32 := px_fine_add (n := 9) (t := px_c11_49) (by decide +kernel) rfl (px_f11_49)
set_option maxRecDepth 20000 in
theorem px_f11_31 : px_fine 11 px_c11_31 := px_fine_add (n := 1) (t := px_c11_32) (by decide +kernel) rfl (px_f11_32)
set_option maxRecDepth 20000 in
theorem px_f11_30 : px_fine 11 px_c11_30 := px_fine_add (n := 1) (t := px_c11_31) (by decide +kernel) rfl (px_f11_31)
set_option maxRecDepth 20000 in
theorem px_f11_0 : px_fine 11 px_c11_0 := px_fine_add (n := 15) (t := px_c11_30) (by decide +kernel) rfl (px_f11_30)
set_option maxRecDepth 20000 in
theorem px_f12_35 : px_fine 12 px_c12_35 := px_fine_add (n := 2) (t := []) (by decide +kernel) rfl (px_fine_nil 12)
set_option maxRecDepth 20000 in
theorem px_f12_29 : px_fine 12 px_c12_29 := px_fine_add (n := 2) (t := px_c12_35) (by decide +kernel) rfl (px_f12_35)
set_option maxRecDepth 20000 in
theorem px_f12_4 : px_fine 12 px_c12_4 := px_fine_add (n := 15) (t := px_c12_29) (by decide +kernel) rfl (px_f12_29)
set_option maxRecDepth 20000 in
theorem px_f12_0 : px_fine 12 px_c12_0 := px_fine_add (n := 4) (t := px_c12_4) (by decide +kernel) rfl (px_f12_4)
set_option maxRecDepth 20000 in
theorem px_f13_24 : px_fine 13 px_c13_24 := px_fine_add (n := 1) (t := []) (by decide +kernel) rfl (px_fine_nil 13)
set_option maxRecDepth 20000 in
theorem px_f13_23 : px_fine 13 px_c13_23 := px_fine_add (n := 1) (t := px_c13_24) (by decide +kernel) rfl (px_f13_24)
set_option maxRecDepth 20000 in
theorem px_f13_0 : px_fine 13 px_c13_0 := px_fine_add (n := 11) (t := px_c13_23) (by decide +kernel) rfl (px_f13_23)
set_option maxRecDepth 20000 in
theorem px_f14_40 : px_fine 14 px_c14_40 := px_fine_add (n := 2) (t := []) (by decide +kernel) rfl (px_fine_nil 14)
set_option maxRecDepth 20000 in
theorem px_f14_34 : px_fine 14 px_c14_34 := px_fine_add (n := 2) (t := px_c14_40) (by decide +kernel) rfl (px_f14_40)
set_option maxRecDepth 20000 in
theorem px_f14_2 : px_fine 14 px_c14_2 := px_fine_add (n := 20) (t := px_c14_34) (by decide +kernel) rfl (px_f14_34)
set_option maxRecDepth 20000 in
theorem px_f14_0 : px_fine 14 px_c14_0 := px_fine_add (n := 2) (t := px_c14_2) (by decide +kernel) rfl (px_f14_2)
set_option maxRecDepth 20000 in
theorem px_f15_97 : px_fine 15 px_c15_97 := px_fine_add (n := 2) (t := []) (by decide +kernel) rfl (px_fine_nil 15)
set_option maxRecDepth 20000 in
theorem px_f15_81 : px_fine 15 px_c15_81 := px_fine_add (n := 8) (t := px_c15_97) (by decide +kernel) rfl (px_f15_97)
set_option maxRecDepth 20000 in
theorem px_f15_79 : px_fine 15 px_c15_79 := px_fine_add (n := 2) (t := px_c15_81) (by decide +kernel) rfl (px_f15_81)
set_option maxRecDepth 20000 in
theorem px_f15_59 : px_fine 15 px_c15_59 := px_fine_add (n := 12) (t := px_c15_79) (by decide +kernel) rfl (px_f15_79)
set_option maxRecDepth 20000 in
theorem px_f15_53 : px_fine 15 px_c15_53 := px_fine_add (n := 2) (t := px_c15_59) (by decide +kernel) rfl (px_f15_59)
set_option maxRecDepth 20000 in
theorem px_f15_20 : px_fine 15 px_c15_20 := px_fine_add (n := 19) (t := px_c15_53) (by decide +kernel) rfl (px_f15_53)
set_option maxRecDepth 20000 in
theorem px_f15_2 : px_fine 15 px_c15_2 := px_fine_add (n := 11) (t := px_c15_20) (by decide +kernel) rfl (px_f15_20)
set_option maxRecDepth 20000 in
theorem px_f15_0 : px_fine 15 px_c15_0 := px_fine_add (n := 2) (t := px_c15_2) (by decide +kernel) rfl (px_f15_2)
set_option maxRecDepth 20000 in
theorem px_f16_37 : px_fine 16 px_c16_37 := px_fine_add (n := 2) (t := []) (by decide +kernel) rfl (px_fine_nil 16)
set_option maxRecDepth 20000 in
theorem px_f16_25 : px_fine 16 px_c16_25 := px_fine_add (n := 6) (t := px_c16_37) (by decide +kernel) rfl (px_f16_37)
set_option maxRecDepth 20000 in
theorem px_f16_4 : px_fine 16 px_c16_4 := px_fine_add (n := 13) (t := px_c16_25) (by decide +kernel) rfl (px_f16_25)
set_option maxRecDepth 20000 in
theorem px_f16_0 : px_fine 16 px_c16_0 := px_fine_add (n := 4) (t := px_c16_4) (by decide +kernel) rfl (px_f16_4)
set_option maxRecDepth 20000 in
theorem px_f17_96 : px_fine 17 px_c17_96 := px_fine_add (n := 1) (t := []) (by decide +kernel) rfl (px_fine_nil 17)
set_option maxRecDepth 20000 in
theorem px_f17_95 : px_fine 17 px_c17_95 := px_fine_add (n := 1) (t := px_c17_96) (by decide +kernel) rfl (px_f17_96)
set_option maxRecDepth 20000 in
theorem px_f17_78 : px_fine 17 px_c17_78 := px_fine_add (n := 9) (t := px_c17_95) (by decide +kernel) rfl (px_f17_95)
set_option maxRecDepth 20000 in
theorem px_f17_50 : px_fine 17 px_c17_50 := px_fine_add (n := 19) (t := px_c17_78) (by decide +kernel) rfl (px_f17_78)
set_option maxRecDepth 20000 in
theorem px_f17_34 : px_fine 17 px_c17_34 := px_fine_add (n := 10) (t := px_c17_50) (by decide +kernel) rfl (px_f17_50)
set_option maxRecDepth 20000 in
theorem px_f17_12 : px_fine 17 px_c17_12 := px_fine_add (n := 12) (t := px_c17_34) (by decide +kernel) rfl (px_f17_34)
set_option maxRecDepth 20000 in
theorem px_f17_0 : px_fine 17 px_c17_0 := px_fine_add (n := 9) (t := px_c17_12) (by decide +kernel) rfl (px_f17_12)
set_option maxRecDepth 20000 in
theorem px_f18_66 : px_fine 18 px_c18_66 := px_fine_add (n := 2) (t := []) (by decide +kernel) rfl (px_fine_nil 18)
set_option maxRecDepth 20000 in
theorem px_f18_60 : px_fine 18 px_c18_60 := px_fine_add (n := 2) (t := px_c18_66) (by decide +kernel) rfl (px_f18_66)
set_option maxRecDepth 20000 in
theorem px_f18_57 : px_fine 18 px_c18_57 := px_fine_add (n := 2) (t := px_c18_60) (by decide +kernel) rfl (px_f18_60)
set_option maxRecDepth 20000 in
theorem px_f18_26 : px_fine 18 px_c18_26 := px_fine_add (n := 20) (t := px_c18_57) (by decide +kernel) rfl (px_f18_57)
set_option maxRecDepth 20000 in
theorem px_f18_5 : px_fine 18 px_c18_5 := px_fine_add (n := 9) (t := px_c18_26) (by decide +kernel) rfl (px_f18_26)
set_option maxRecDepth 20000 in
theorem px_f18_0 : px_fine 18 px_c18_0 := px_fine_add (n := 4) (t := px_c18_5) (by decide +kernel) rfl (px_f18_5)
set_option maxRecDepth 20000 in
theorem px_f19_0 : px_fine 19 px_c19_0 := px_fine_add (n := 18) (t := []) (by decide +kernel) rfl (px_fine_nil 19)
set_option maxRecDepth 20000 in
theorem px_f20_44 : px_fine 20 px_c20_44 := px_fine_add (n := 1) (t := []) (by decide +kernel) rfl (px_fine_nil 20)
set_option maxRecDepth 20000 in
theorem px_f20_19 : px_fine 20 px_c20_19 := px_fine_add (n := 13) (t := px_c20_44) (by decide +kernel) rfl (px_f20_44)
set_option maxRecDepth 20000 in
theorem px_f20_0 : px_fine 20 px_c20_0 := px_fine_add (n := 12) (t := px_c20_19) (by decide +kernel) rfl (px_f20_19)
set_option maxRecDepth 20000 in
theorem px_f21_40 : px_fine 21 px_c21_40 := px_fine_add (n := 1) (t := []) (by decide +kernel) rfl (px_fine_nil 21)
set_option maxRecDepth 20000 in
theorem px_f21_8 : px_fine 21 px_c21_8 := px_fine_add (n := 16) (t := px_c21_40) (by decide +kernel) rfl (px_f21_40)
set_option maxRecDepth 20000 in
theorem px_f21_0 : px_fine 21 px_c21_0 := px_fine_add (n := 5) (t := px_c21_8) (by decide +kernel) rfl (px_f21_8)
set_option maxRecDepth 20000 in
theorem px_f22_35 : px_fine 22 px_c22_35 := px_fine_add (n := 1) (t := []) (by decide +kernel) rfl (px_fine_nil 22)
set_option maxRecDepth 20000 in
theorem px_f22_2 : px_fine 22 px_c22_2 := px_fine_add (n := 19) (t := px_c22_35) (by decide +kernel) rfl (px_f22_35)
set_option maxRecDepth 20000 in
theorem px_f22_0 : px_fine 22 px_c22_0 := px_fine_add (n := 2) (t := px_c22_2) (by decide +kernel) rfl (px_f22_2)
set_option maxRecDepth 20000 in
theorem px_f23_46 : px_fine 23 px_c23_46 := px_fine_add (n := 1) (t := []) (by decide +kernel) rfl (px_fine_nil 23)
set_option maxRecDepth 20000 in
theorem px_f23_45 : px_fine 23 px_c23_45 := px_fine_add (n := 1) (t := px_c23_46) (by decide +kernel) rfl (px_f23_46)
set_option maxRecDepth 20000 in
theorem px_f23_32 : px_fine 23 px_c23_32 := px_fine_add (n := 7) (t := px_c23_45) (by decide +kernel) rfl (px_f23_45)
set_option maxRecDepth 20000 in
theorem px_f23_21 : px_fine 23 px_c23_21 := px_fine_add (n := 7) (t := px_c23_32) (by decide +kernel) rfl (px_f23_32)
set_option maxRecDepth 20000 in
theorem px_f23_11 : px_fine 23 px_c23_11 := px_fine_add (n := 6) (t := px_c23_21) (by decide +kernel) rfl (px_f23_21)
set_option maxRecDepth 20000 in
theorem px_f23_0 : px_fine 23 px_c23_0 := px_fine_add (n := 7) (t := px_c23_11) (by decide +kernel) rfl (px_f23_11)
set_option maxRecDepth 20000 in
theorem px_f24_55 : px_fine 24 px_c24_55 := px_fine_add (n := 2) (t := []) (by decide +kernel) rfl (px_fine_nil 24)
set_option maxRecDepth 20000 in
theorem px_f24_49 : px_fine 24 px_c24_49 := px_fine_add (n := 4) (t := px_c24_55) (by decide +kernel) rfl (px_f24_55)
set_option maxRecDepth 20000 in
theorem px_f24_43 : px_fine 24 px_c24_43 := px_fine_add (n := 4) (t := px_c24_49) (by decide +kernel) rfl (px_f24_49)
set_option maxRecDepth 20000 in
theorem px_f24_38 : px_fine 24 px_c24_38 := px_fine_add (n := 3) (t := px_c24_43) (by decide +kernel) rfl (px_f24_43)
set_option maxRecDepth 20000 in
theorem px_f24_32 : px_fine 24 px_c24_32 := px_fine_add (n := 4) (t := px_c24_38) (by decide +kernel) rfl (px_f24_38)
set_option maxRecDepth 20000 in
theorem px_f24_0 : px_fine 24 px_c24_0 := px_fine_add (n := 2) (t := px_c24_32) (by decide +kernel) rfl (px_f24_32)
set_option maxRecDepth 20000 in
theorem px_f25_25 : px_fine 25 px_c25_25 := px_fine_add (n := 1) (t := []) (by decide +kernel) rfl (px_fine_nil 25)
set_option maxRecDepth 20000 in
theorem px_f25_24 : px_fine 25 px_c25_24 := px_fine_add (n := 1) (t := px_c25_25) (by decide +kernel) rfl (px_f25_25)
set_option maxRecDepth 20000 in
theorem px_f25_0 : px_fine 25 px_c25_0 := px_fine_add (n := 13) (t := px_c25_24) (by decide +kernel) rfl (px_f25_24)
set_option maxRecDepth 20000 in
theorem px_f26_42 : px_fine 26 px_c26_42 := px_fine_add (n := 2) (t := []) (by decide +kernel) rfl (px_fine_nil 26)
set_option maxRecDepth 20000 in
theorem px_f26_36 : px_fine 26 px_c26_36 := px_fine_add (n := 2) (t := px_c26_42) (by decide +kernel) rfl (px_f26_42)
set_option maxRecDepth 20000 in
theorem px_f26_2 : px_fine 26 px_c26_2 := px_fine_add (n := 20) (t := px_c26_36) (by decide +kernel) rfl (px_f26_36)
set_option maxRecDepth 20000 in
theorem px_f26_0 : px_fine 26 px_c26_0 := px_fine_add (n := 2) (t := px_c26_2) (by decide +kernel) rfl (px_f26_2)
set_option maxRecDepth 20000 in
theorem px_f27_37 : px_fine 27 px_c27_37 := px_fine_add (n := 2) (t := []) (by decide +kernel) rfl (px_fine_nil 27)
set_option maxRecDepth 20000 in
theorem px_f27_31 : px_fine 27 px_c27_31 := px_fine_add (n := 2) (t := px_c27_37) (by decide +kernel) rfl (px_f27_37)
set_option maxRecDepth 20000 in
theorem px_f27_2 : px_fine 27 px_c27_2 := px_fine_add (n := 17) (t := px_c27_31) (by decide +kernel) rfl (px_f27_31)
set_option maxRecDepth 20000 in
theorem px_f27_0 : px_fine 27 px_c27_0 := px_fine_add (n := 2) (t := px_c27_2) (by decide +kernel) rfl (px_f27_2)
set_option maxRecDepth 20000 in
theorem px_f28_72 : px_fine 28 px_c28_72 := px_fine_add (n := 2) (t := []) (by decide +kernel) rfl (px_fine_nil 28)
set_option maxRecDepth 20000 in
theorem px_f28_66 : px_fine 28 px_c28_66 := px_fine_add (n := 2) (t := px_c28_72) (by decide +kernel) rfl (px_f28_72)
set_option maxRecDepth 20000 in
theorem px_f28_34 : px_fine 28 px_c28_34 := px_fine_add (n := 17) (t := px_c28_66) (by decide +kernel) rfl (px_f28_66)
set_option maxRecDepth 20000 in
theorem px_f28_17 : px_fine 28 px_c28_17 := px_fine_add (n := 12) (t := px_c28_34) (by decide +kernel) rfl (px_f28_34)
set_option maxRecDepth 20000 in
theorem px_f28_15 : px_fine 28 px_c28_15 := px_fine_add (n := 2) (t := px_c28_17) (by decide +kernel) rfl (px_f28_17)
set_option maxRecDepth 20000 in
theorem px_f28_0 : px_fine 28 px_c28_0 := px_fine_add (n := 8) (t := px_c28_15) (by decide +kernel) rfl (px_f28_15)
set_option maxRecDepth 20000 in
theorem px_f29_73 : px_fine 29 px_c29_73 := px_fine_add (n := 2) (t := []) (by decide +kernel) rfl (px_fine_nil 29)
set_option maxRecDepth 20000 in
theorem px_f29_67 : px_fine 29 px_c29_67 := px_fine_add (n := 2) (t := px_c29_73) (by decide +kernel) rfl (px_f29_73)
set_option maxRecDepth 20000 in
theorem px_f29_40 : px_fine 29 px_c29_40 := px_fine_add (n := 15) (t := px_c29_67) (by decide +kernel) rfl (px_f29_67)
set_option maxRecDepth 20000 in
theorem px_f29_39 : px_fine 29 px_c29_39 := px_fine_add (n := 1) (t := px_c29_40) (by decide +kernel) rfl (px_f29_40)
set_option maxRecDepth 20000 in
theorem px_f29_2 : px_fine 29 px_c29_2 := px_fine_add (n := 19) (t := px_c29_39) (by decide +kernel) rfl (px_f29_39)
set_option maxRecDepth 20000 in
theorem px_f29_0 : px_fine 29 px_c29_0 := px_fine_add (n := 2) (t := px_c29_2) (by decide +kernel) rfl (px_f29_2)
set_option maxRecDepth 20000 in
theorem px_f30_56 : px_fine 30 px_c30_56 := px_fine_add (n := 2) (t := []) (by decide +kernel) rfl (px_fine_nil 30)
set_option maxRecDepth 20000 in
theorem px_f30_50 : px_fine 30 px_c30_50 := px_fine_add (n := 2) (t := px_c30_56) (by decide +kernel) rfl (px_f30_56)
set_option maxRecDepth 20000 in
theorem px_f30_41 : px_fine 30 px_c30_41 := px_fine_add (n := 7) (t := px_c30_50) (by decide +kernel) rfl (px_f30_50)
set_option maxRecDepth 20000 in
theorem px_f30_26 : px_fine 30 px_c30_26 := px_fine_add (n := 9) (t := px_c30_41) (by decide +kernel) rfl (px_f30_41)
set_option maxRecDepth 20000 in
theorem px_f30_6 : px_fine 30 px_c30_6 := px_fine_add (n := 10) (t := px_c30_26) (by decide +kernel) rfl (px_f30_26)
set_option maxRecDepth 20000 in
theorem px_f30_0 : px_fine 30 px_c30_0 := px_fine_add (n := 6) (t := px_c30_6) (by decide +kernel) rfl (px_f30_6)
set_option maxRecDepth 20000 in
theorem px_f31_0 : px_fine 31 px_c31_0 := px_fine_add (n := 19) (t := []) (by decide +kernel) rfl (px_fine_nil 31)
set_option maxRecDepth 20000 in
theorem px_f32_14 : px_fine 32 px_c32_14 := px_fine_add (n := 1) (t := []) (by decide +kernel) rfl (px_fine_nil 32)
set_option maxRecDepth 20000 in
theorem px_f32_13 : px_fine 32 px_c32_13 := px_fine_add (n := 1) (t := px_c32_14) (by decide +kernel) rfl (px_f32_14)
set_option maxRecDepth 20000 in
theorem px_f32_0 : px_fine 32 px_c32_0 := px_fine_add (n := 6) (t := px_c32_13) (by decide +kernel) rfl (px_f32_13)
set_option maxRecDepth 20000 in
theorem px_f33_21 : px_fine 33 px_c33_21 := px_fine_add (n := 1) (t := []) (by decide +kernel) rfl (px_fine_nil 33)
set_option maxRecDepth 20000 in
theorem px_f33_20 : px_fine 33 px_c33_20 := px_fine_add (n := 1) (t := px_c33_21) (by decide +kernel) rfl (px_f33_21)
set_option maxRecDepth 20000 in
theorem px_f33_0 : px_fine 33 px_c33_0 := px_fine_add (n := 9) (t := px_c33_20) (by decide +kernel) rfl (px_f33_20)
set_option maxRecDepth 20000 in
theorem px_f34_0 : px_fine 34 px_c34_0 := px_fine_add (n := 7) (t := []) (by decide +kernel) rfl (px_fine_nil 34)
set_option maxRecDepth 20000 in
theorem px_f35_0 : px_fine 35 px_c35_0 := px_fine_add (n := 17) (t := []) (by decide +kernel) rfl (px_fine_nil 35)
set_option maxRecDepth 20000 in
theorem px_f36_49 : px_fine 36 px_c36_49 := px_fine_add (n := 5) (t := []) (by decide +kernel) rfl (px_fine_nil 36)
set_option maxRecDepth 20000 in
theorem px_f36_48 : px_fine 36 px_c36_48 := px_fine_add (n := 1) (t := px_c36_49) (by decide +kernel) rfl (px_f36_49)
set_option maxRecDepth 20000 in
theorem px_f36_26 : px_fine 36 px_c36_26 := px_fine_add (n := 12) (t := px_c36_48) (by decide +kernel) rfl (px_f36_48)
set_option maxRecDepth 20000 in
theorem px_f36_25 : px_fine 36 px_c36_25 := px_fine_add (n := 1) (t := px_c36_26) (by decide +kernel) rfl (px_f36_26)
set_option maxRecDepth 20000 in
theorem px_f36_21 : px_fine 36 px_c36_21 := px_fine_add (n := 2) (t := px_c36_25) (by decide +kernel) rfl (px_f36_25)
set_option maxRecDepth 20000 in
theorem px_f36_0 : px_fine 36 px_c36_0 := px_fine_add (n := 12) (t := px_c36_21) (by decide +kernel) rfl (px_f36_21)
set_option maxRecDepth 20000 in
theorem px_f37_17 : px_fine 37 px_c37_17 := px_fine_add (n := 1) (t := []) (by decide +kernel) rfl (px_fine_nil 37)
set_option maxRecDepth 20000 in
theorem px_f37_16 : px_fine 37 px_c37_16 := px_fine_add (n := 1) (t := px_c37_17) (by decide +kernel) rfl (px_f37_17)
set_option maxRecDepth 20000 in
theorem px_f37_0 : px_fine 37 px_c37_0 := px_fine_add (n := 8) (t := px_c37_16) (by decide +kernel) rfl (px_f37_16)
set_option maxRecDepth 20000 in
theorem px_f38_27 : px_fine 38 px_c38_27 := px_fine_add (n := 1) (t := []) (by decide +kernel) rfl (px_fine_nil 38)
set_option maxRecDepth 20000 in
theorem px_f38_26 : px_fine 38 px_c38_26 := px_fine_add (n := 1) (t := px_c38_27) (by decide +kernel) rfl (px_f38_27)
set_option maxRecDepth 20000 in
theorem px_f38_0 : px_fine 38 px_c38_0 := px_fine_add (n := 16) (t := px_c38_26) (by decide +kernel) rfl (px_f38_26)
set_option maxRecDepth 20000 in
theorem px_f39_22 : px_fine 39 px_c39_22 := px_fine_add (n := 1) (t := []) (by decide +kernel) rfl (px_fine_nil 39)
set_option maxRecDepth 20000 in
theorem px_f39_21 : px_fine 39 px_c39_21 := px_fine_add (n := 1) (t := px_c39_22) (by decide +kernel) rfl (px_f39_22)
set_option maxRecDepth 20000 in
theorem px_f39_0 : px_fine 39 px_c39_0 := px_fine_add (n := 11) (t := px_c39_21) (by decide +kernel) rfl (px_f39_21)
set_option maxRecDepth 20000 in
theorem px_f40_0 : px_fine 40 px_c40_0 := px_fine_add (n := 5) (t := []) (by decide +kernel) rfl (px_fine_nil 40)
set_option maxRecDepth 20000 in
theorem px_f41_19 : px_fine 41 px_c41_19 := px_fine_add (n := 1) (t := []) (by decide +kernel) rfl (px_fine_nil 41)
set_option maxRecDepth 20000 in
theorem px_f41_0 : px_fine 41 px_c41_0 := px_fine_add (n := 11) (t := px_c41_19) (by decide +kernel) rfl (px_f41_19)
set_option maxRecDepth 20000 in
theorem px_f42_46 : px_fine 42 px_c42_46 := px_fine_add (n := 2) (t := []) (by decide +kernel) rfl (px_fine_nil 42)
set_option maxRecDepth 20000 in
theorem px_f42_42 : px_fine 42 px_c42_42 := px_fine_add (n := 4) (t := px_c42_46) (by decide +kernel) rfl (px_f42_46)
set_option maxRecDepth 20000 in
theorem px_f42_37 : px_fine 42 px_c42_37 := px_fine_add (n := 5) (t := px_c42_42) (by decide +kernel) rfl (px_f42_42)
set_option maxRecDepth 20000 in
theorem px_f42_32 : px_fine 42 px_c42_32 := px_fine_add (n := 5) (t := px_c42_37) (by decide +kernel) rfl (px_f42_37)
set_option maxRecDepth 20000 in
theorem px_f42_0 : px_fine 42 px_c42_0 := px_fine_add (n := 5) (t := px_c42_32) (by decide +kernel) rfl (px_f42_32)
set_option maxRecDepth 20000 in
theorem px_f43_43 : px_fine 43 px_c43_43 := px_fine_add (n := 1) (t := []) (by decide +kernel) rfl (px_fine_nil 43)
set_option maxRecDepth 20000 in
theorem px_f43_42 : px_fine 43 px_c43_42 := px_fine_add (n := 1) (t := px_c43_43) (by decide +kernel) rfl (px_f43_43)
set_option maxRecDepth 20000 in
theorem px_f43_38 : px_fine 43 px_c43_38 := px_fine_add (n := 2) (t := px_c43_42) (by decide +kernel) rfl (px_f43_42)
set_option maxRecDepth 20000 in
theorem px_f43_17 : px_fine 43 px_c43_17 := px_fine_add (n := 11) (t := px_c43_38) (by decide +kernel) rfl (px_f43_38)
set_option maxRecDepth 20000 in
theorem px_f43_12 : px_fine 43 px_c43_12 := px_fine_add (n := 3) (t := px_c43_17) (by decide +kernel) rfl (px_f43_17)
set_option maxRecDepth 20000 in
theorem px_f43_0 : px_fine 43 px_c43_0 := px_fine_add (n := 6) (t := px_c43_12) (by decide +kernel) rfl (px_f43_12)
set_option maxRecDepth 20000 in
theorem px_f44_21 : px_fine 44 px_c44_21 := px_fine_add (n := 1) (t := []) (by decide +kernel) rfl (px_fine_nil 44)
set_option maxRecDepth 20000 in
theorem px_f44_20 : px_fine 44 px_c44_20 := px_fine_add (n := 1) (t := px_c44_21) (by decide +kernel) rfl (px_f44_21)
set_option maxRecDepth 20000 in
theorem px_f44_0 : px_fine 44 px_c44_0 := px_fine_add (n := 10) (t := px_c44_20) (by decide +kernel) rfl (px_f44_20)
set_option maxRecDepth 20000 in
theorem px_f45_90 : px_fine 45 px_c45_90 := px_fine_add (n := 15) (t := []) (by decide +kernel) rfl (px_fine_nil 45)
set_option maxRecDepth 20000 in
theorem px_f45_0 : px_fine 45 px_c45_0 := px_fine_add (n := 50) (t := px_c45_90) (by decide +kernel) rfl (px_f45_90)
set_option maxRecDepth 20000 in
theorem px_f46_0 : px_fine 46 px_c46_0 := px_fine_add (n := 46) (t := []) (by decide +kernel) rfl (px_fine_nil 46)
set_option maxRecDepth 20000 in
theorem px_f47_21 : px_fine 47 px_c47_21 := px_fine_add (n := 1) (t := []) (by decide +kernel) rfl (px_fine_nil 47)
set_option maxRecDepth 20000 in
theorem px_f47_20 : px_fine 47 px_c47_20 := px_fine_add (n := 1) (t := px_c47_21) (by decide +kernel) rfl (px_f47_21)
set_option maxRecDepth 20000 in
theorem px_f47_16 : px_fine 47 px_c47_16 := px_fine_add (n := 2) (t := px_c47_20) (by decide +kernel) rfl (px_f47_20)
set_option maxRecDepth 20000 in
theorem px_f47_0 : px_fine 47 px_c47_0 := px_fine_add (n := 8) (t := px_c47_16) (by decide +kernel) rfl (px_f47_16)
set_option maxRecDepth 20000 in
theorem px_f48_79 : px_fine 48 px_c48_79 := px_fine_add (n := 1) (t := []) (by decide +kernel) rfl (px_fine_nil 48)
set_option maxRecDepth 20000 in
theorem px_f48_58 : px_fine 48 px_c48_58 := px_fine_add (n := 17) (t := px_c48_79) (by decide +kernel) rfl (px_f48_79)
set_option maxRecDepth 20000 in
theorem px_f48_34 : px_fine 48 px_c48_34 := px_fine_add (n := 16) (t := px_c48_58) (by decide +kernel) rfl (px_f48_58)
set_option maxRecDepth 20000 in
theorem px_f48_17 : px_fine 48 px_c48_17 := px_fine_add (n := 11) (t := px_c48_34) (by decide +kernel) rfl (px_f48_34)
set_option maxRecDepth 20000 in
theorem px_f48_16 : px_fine 48 px_c48_16 := px_fine_add (n := 1) (t := px_c48_17) (by decide +kernel) rfl (px_f48_17)
set_option maxRecDepth 20000 in
theorem px_f48_0 : px_fine 48 px_c48_0 := px_fine_add (n := 9) (t := px_c48_16) (by decide +kernel) rfl (px_f48_16)
set_option maxRecDepth 20000 in
theorem px_f49_70 : px_fine 49 px_c49_70 := px_fine_add (n := 3) (t := []) (by decide +kernel) rfl (px_fine_nil 49)
set_option maxRecDepth 20000 in
theorem px_f49_65 : px_fine 49 px_c49_65 := px_fine_add (n := 3) (t := px_c49_70) (by decide +kernel) rfl (px_f49_70)
set_option maxRecDepth 20000 in
theorem px_f49_60 : px_fine 49 px_c49_60 := px_fine_add (n := 3) (t := px_c49_65) (by decide +kernel) rfl (px_f49_65)
set_option maxRecDepth 20000 in
theorem px_f49_55 : px_fine 49 px_c49_55 := px_fine_add (n := 3) (t := px_c49_60) (by decide +kernel) rfl (px_f49_60)
set_option maxRecDepth 20000 in
theorem px_f49_50 : px_fine 49 px_c49_50 := px_fine_add (n := 3) (t := px_c49_55) (by decide +kernel) rfl (px_f49_55)
set_option maxRecDepth 20000 in
theorem px_f49_45 : px_fine 49 px_c49_45 := px_fine_add (n := 3) (t := px_c49_50) (by decide +kernel) rfl (px_f49_50)
set_option maxRecDepth 20000 in
theorem px_f49_40 : px_fine 49 px_c49_40 := px_fine_add (n := 3) (t := px_c49_45) (by decide +kernel) rfl (px_f49_45)
set_option maxRecDepth 20000 in
theorem px_f49_0 : px_fine 49 px_c49_0 := px_fine_add (n := 2) (t := px_c49_40) (by decide +kernel) rfl (px_f49_40)
set_option maxRecDepth 20000 in
theorem px_f50_34 : px_fine 50 px_c50_34 := px_fine_add (n := 2) (t := []) (by decide +kernel) rfl (px_fine_nil 50)
set_option maxRecDepth 20000 in
theorem px_f50_28 : px_fine 50 px_c50_28 := px_fine_add (n := 2) (t := px_c50_34) (by decide +kernel) rfl (px_f50_34)
set_option maxRecDepth 20000 in
theorem px_f50_2 : px_fine 50 px_c50_2 := px_fine_add (n := 14) (t := px_c50_28) (by decide +kernel) rfl (px_f50_28)
set_option maxRecDepth 20000 in
theorem px_f50_0 : px_fine 50 px_c50_0 := px_fine_add (n := 2) (t := px_c50_2) (by decide +kernel) rfl (px_f50_2)
set_option maxRecDepth 20000 in
theorem px_f51_22 : px_fine 51 px_c51_22 := px_fine_add (n := 1) (t := []) (by decide +kernel) rfl (px_fine_nil 51)
set_option maxRecDepth 20000 in
theorem px_f51_21 : px_fine 51 px_c51_21 := px_fine_add (n := 1) (t := px_c51_22) (by decide +kernel) rfl (px_f51_22)
set_option maxRecDepth 20000 in
theorem px_f51_0 : px_fine 51 px_c51_0 := px_fine_add (n := 11) (t := px_c51_21) (by decide +kernel) rfl (px_f51_21)
set_option maxRecDepth 20000 in
theorem px_f52_18 : px_fine 52 px_c52_18 := px_fine_add (n := 1) (t := []) (by decide +kernel) rfl (px_fine_nil 52)
set_option maxRecDepth 20000 in
theorem px_f52_17 : px_fine 52 px_c52_17 := px_fine_add (n := 1) (t := px_c52_18) (by decide +kernel) rfl (px_f52_18)
set_option maxRecDepth 20000 in
theorem px_f52_0 : px_fine 52 px_c52_0 := px_fine_add (n := 9) (t := px_c52_17) (by decide +kernel) rfl (px_f52_17)
set_option maxRecDepth 20000 in
theorem px_f53_18 : px_fine 53 px_c53_18 := px_fine_add (n := 1) (t := []) (by decide +kernel) rfl (px_fine_nil 53)
set_option maxRecDepth 20000 in
theorem px_f53_17 : px_fine 53 px_c53_17 := px_fine_add (n := 1) (t := px_c53_18) (by decide +kernel) rfl (px_f53_18)
set_option maxRecDepth 20000 in
theorem px_f53_0 : px_fine 53 px_c53_0 := px_fine_add (n := 9) (t := px_c53_17) (by decide +kernel) rfl (px_f53_17)
set_option maxRecDepth 20000 in
theorem px_f54_0 : px_fine 54 px_c54_0 := px_fine_add (n := 13) (t := []) (by decide +kernel) rfl (px_fine_nil 54)
set_option maxRecDepth 20000 in
theorem px_f55_35 : px_fine 55 px_c55_35 := px_fine_add (n := 2) (t := []) (by decide +kernel) rfl (px_fine_nil 55)
set_option maxRecDepth 20000 in
theorem px_f55_29 : px_fine 55 px_c55_29 := px_fine_add (n := 2) (t := px_c55_35) (by decide +kernel) rfl (px_f55_35)
set_option maxRecDepth 20000 in
theorem px_f55_4 : px_fine 55 px_c55_4 := px_fine_add (n := 15) (t := px_c55_29) (by decide +kernel) rfl (px_f55_29)
set_option maxRecDepth 20000 in
theorem px_f55_0 : px_fine 55 px_c55_0 := px_fine_add (n := 4) (t := px_c55_4) (by decide +kernel) rfl (px_f55_4)
set_option maxRecDepth 20000 in
theorem px_f56_43 : px_fine 56 px_c56_43 := px_fine_add (n := 2) (t := []) (by decide +kernel) rfl (px_fine_nil 56)
set_option maxRecDepth 20000 in
theorem px_f56_37 : px_fine 56 px_c56_37 := px_fine_add (n := 2) (t := px_c56_43) (by decide +kernel) rfl (px_f56_43)
set_option maxRecDepth 20000 in
theorem px_f56_4 : px_fine 56 px_c56_4 := px_fine_add (n := 19) (t := px_c56_37) (by decide +kernel) rfl (px_f56_37)
set_option maxRecDepth 20000 in
theorem px_f56_0 : px_fine 56 px_c56_0 := px_fine_add (n := 4) (t := px_c56_4) (by decide +kernel) rfl (px_f56_4)
set_option maxRecDepth 20000 in
theorem px_f57_83 : px_fine 57 px_c57_83 := px_fine_add (n := 2) (t := []) (by decide +kernel) rfl (px_fine_nil 57)
set_option maxRecDepth 20000 in
theorem px_f57_76 : px_fine 57 px_c57_76 := px_fine_add (n := 5) (t := px_c57_83) (by decide +kernel) rfl (px_f57_83)
set_option maxRecDepth 20000 in
theorem px_f57_69 : px_fine 57 px_c57_69 := px_fine_add (n := 5) (t := px_c57_76) (by decide +kernel) rfl (px_f57_76)
set_option maxRecDepth 20000 in
theorem px_f57_59 : px_fine 57 px_c57_59 := px_fine_add (n := 6) (t := px_c57_69) (by decide +kernel) rfl (px_f57_69)
set_option maxRecDepth 20000 in
theorem px_f57_48 : px_fine 57 px_c57_48 := px_fine_add (n := 7) (t := px_c57_59) (by decide +kernel) rfl (px_f57_59)
set_option maxRecDepth 20000 in
theorem px_f57_0 : px_fine 57 px_c57_0 := px_fine_add (n := 6) (t := px_c57_48) (by decide +kernel) rfl (px_f57_48)
set_option maxRecDepth 20000 in
theorem px_f58_43 : px_fine 58 px_c58_43 := px_fine_add (n := 2) (t := []) (by decide +kernel) rfl (px_fine_nil 58)
set_option maxRecDepth 20000 in
theorem px_f58_37 : px_fine 58 px_c58_37 := px_fine_add (n := 2) (t := px_c58_43) (by decide +kernel) rfl (px_f58_43)
set_option maxRecDepth 20000 in
theorem px_f58_4 : px_fine 58 px_c58_4 := px_fine_add (n := 19) (t := px_c58_37) (by decide +kernel) rfl (px_f58_37)
set_option maxRecDepth 20000 in
theorem px_f58_0 : px_fine 58 px_c58_0 := px_fine_add (n := 4) (t := px_c58_4) (by decide +kernel) rfl (px_f58_4)
set_option maxRecDepth 20000 in
theorem px_f59_96 : px_fine 59 px_c59_96 := px_fine_add (n := 2) (t := []) (by decide +kernel) rfl (px_fine_nil 59)
set_option maxRecDepth 20000 in
theorem px_f59_90 : px_fine 59 px_c59_90 := px_fine_add (n := 2) (t := px_c59_96) (by decide +kernel) rfl (px_f59_96)
set_option maxRecDepth 20000 in
theorem px_f59_84 : px_fine 59 px_c59_84 := px_fine_add (n := 2) (t := px_c59_90) (by decide +kernel) rfl (px_f59_90)
set_option maxRecDepth 20000 in
theorem px_f59_18 : px_fine 59 px_c59_18 := px_fine_add (n := 33) (t := px_c59_84) (by decide +kernel) rfl (px_f59_84)
set_option maxRecDepth 20000 in
theorem px_f59_8 : px_fine 59 px_c59_8 := px_fine_add (n := 5) (t := px_c59_18) (by decide +kernel) rfl (px_f59_18)
set_option maxRecDepth 20000 in
theorem px_f59_0 : px_fine 59 px_c59_0 := px_fine_add (n := 6) (t := px_c59_8) (by decide +kernel) rfl (px_f59_8)
set_option maxRecDepth 20000 in
theorem px_f60_43 : px_fine 60 px_c60_43 := px_fine_add (n := 1) (t := []) (by decide +kernel) rfl (px_fine_nil 60)
set_option maxRecDepth 20000 in
theorem px_f60_27 : px_fine 60 px_c60_27 := px_fine_add (n := 9) (t := px_c60_43) (by decide +kernel) rfl (px_f60_43)
set_option maxRecDepth 20000 in
theorem px_f60_0 : px_fine 60 px_c60_0 := px_fine_add (n := 17) (t := px_c60_27) (by decide +kernel) rfl (px_f60_27)
set_option maxRecDepth 20000 in
theorem px_f61_139 : px_fine 61 px_c61_139 := px_fine_add (n := 2) (t := []) (by decide +kernel) rfl (px_fine_nil 61)
set_option maxRecDepth 20000 in
theorem px_f61_111 : px_fine 61 px_c61_111 := px_fine_add (n := 15) (t := px_c61_139) (by decide +kernel) rfl (px_f61_139)
set_option maxRecDepth 20000 in
theorem px_f61_86 : px_fine 61 px_c61_86 := px_fine_add (n := 14) (t := px_c61_111) (by decide +kernel) rfl (px_f61_111)
set_option maxRecDepth 20000 in
theorem px_f61_37 : px_fine 61 px_c61_37 := px_fine_add (n := 27) (t := px_c61_86) (by decide +kernel) rfl (px_f61_86)
set_option maxRecDepth 20000 in
theorem px_f61_10 : px_fine 61 px_c61_10 := px_fine_add (n := 15) (t := px_c61_37) (by decide +kernel) rfl (px_f61_37)
set_option maxRecDepth 20000 in
theorem px_f61_0 : px_fine 61 px_c61_0 := px_fine_add (n := 5) (t := px_c61_10) (by decide +kernel) rfl (px_f61_10)
set_option maxRecDepth 20000 in
theorem px_f62_92 : px_fine 62 px_c62_92 := px_fine_add (n := 2) (t := []) (by decide +kernel) rfl (px_fine_nil 62)
set_option maxRecDepth 20000 in
theorem px_f62_86 : px_fine 62 px_c62_86 := px_fine_add (n := 2) (t := px_c62_92) (by decide +kernel) rfl (px_f62_92)
set_option maxRecDepth 20000 in
theorem px_f62_32 : px_fine 62 px_c62_32 := px_fine_add (n := 24) (t := px_c62_86) (by decide +kernel) rfl (px_f62_86)
set_option maxRecDepth 20000 in
theorem px_f62_0 : px_fine 62 px_c62_0 := px_fine_add (n := 16) (t := px_c62_32) (by decide +kernel) rfl (px_f62_32)
set_option maxRecDepth 20000 in
theorem px_f63_32 : px_fine 63 px_c63_32 := px_fine_add (n := 1) (t := []) (by decide +kernel) rfl (px_fine_nil 63)
set_option maxRecDepth 20000 in
theorem px_f63_30 : px_fine 63 px_c63_30 := px_fine_add (n := 1) (t := px_c63_32) (by decide +kernel) rfl (px_f63_32)
set_option maxRecDepth 20000 in
theorem px_f63_0 : px_fine 63 px_c63_0 := px_fine_add (n := 17) (t := px_c63_30) (by decide +kernel) rfl (px_f63_30)
set_option maxRecDepth 20000 in
theorem px_f64_48 : px_fine 64 px_c64_48 := px_fine_add (n := 2) (t := []) (by decide +kernel) rfl (px_fine_nil 64)
set_option maxRecDepth 20000 in
theorem px_f64_42 : px_fine 64 px_c64_42 := px_fine_add (n := 2) (t := px_c64_48) (by decide +kernel) rfl (px_f64_48)
set_option maxRecDepth 20000 in
theorem px_f64_6 : px_fine 64 px_c64_6 := px_fine_add (n := 18) (t := px_c64_42) (by decide +kernel) rfl (px_f64_42)
set_option maxRecDepth 20000 in
theorem px_f64_0 : px_fine 64 px_c64_0 := px_fine_add (n := 4) (t := px_c64_6) (by decide +kernel) rfl (px_f64_6)
set_option maxRecDepth 20000 in
theorem px_f65_82 : px_fine 65 px_c65_82 := px_fine_add (n := 2) (t := []) (by decide +kernel) rfl (px_fine_nil 65)
set_option maxRecDepth 20000 in
theorem px_f65_76 : px_fine 65 px_c65_76 := px_fine_add (n := 2) (t := px_c65_82) (by decide +kernel) rfl (px_f65_82)
set_option maxRecDepth 20000 in
theorem px_f65_43 : px_fine 65 px_c65_43 := px_fine_add (n := 18) (t := px_c65_76) (by decide +kernel) rfl (px_f65_76)
set_option maxRecDepth 20000 in
theorem px_f65_42 : px_fine 65 px_c65_42 := px_fine_add (n := 1) (t := px_c65_43) (by decide +kernel) rfl (px_f65_43)
set_option maxRecDepth 20000 in
theorem px_f65_6 : px_fine 65 px_c65_6 := px_fine_add (n := 16) (t := px_c65_42) (by decide +kernel) rfl (px_f65_42)
set_option maxRecDepth 20000 in
theorem px_f65_0 : px_fine 65 px_c65_0 := px_fine_add (n := 4) (t := px_c65_6) (by decide +kernel) rfl (px_f65_6)
set_option maxRecDepth 20000 in
theorem px_f66_67 : px_fine 66 px_c66_67 := px_fine_add (n := 2) (t := []) (by decide +kernel) rfl (px_fine_nil 66)
set_option maxRecDepth 20000 in
theorem px_f66_61 : px_fine 66 px_c66_61 := px_fine_add (n := 2) (t := px_c66_67) (by decide +kernel) rfl (px_f66_67)
set_option maxRecDepth 20000 in
theorem px_f66_44 : px_fine 66 px_c66_44 := px_fine_add (n := 8) (t := px_c66_61) (by decide +kernel) rfl (px_f66_61)
set_option maxRecDepth 20000 in
theorem px_f66_43 : px_fine 66 px_c66_43 := px_fine_add (n := 1) (t := px_c66_44) (by decide +kernel) rfl (px_f66_44)
set_option maxRecDepth 20000 in
theorem px_f66_9 : px_fine 66 px_c66_9 := px_fine_add (n := 16) (t := px_c66_43) (by decide +kernel) rfl (px_f66_43)
set_option maxRecDepth 20000 in
theorem px_f66_0 : px_fine 66 px_c66_0 := px_fine_add (n := 6) (t := px_c66_9) (by decide +kernel) rfl (px_f66_9)
set_option maxRecDepth 20000 in
theorem px_f67_101 : px_fine 67 px_c67_101 := px_fine_add (n := 2) (t := []) (by decide +kernel) rfl (px_fine_nil 67)
set_option maxRecDepth 20000 in
theorem px_f67_96 : px_fine 67 px_c67_96 := px_fine_add (n := 4) (t := px_c67_101) (by decide +kernel) rfl (px_f67_101)
set_option maxRecDepth 20000 in
theorem px_f67_91 : px_fine 67 px_c67_91 := px_fine_add (n := 4) (t := px_c67_96) (by decide +kernel) rfl (px_f67_96)
set_option maxRecDepth 20000 in
theorem px_f67_88 : px_fine 67 px_c67_88 := px_fine_add (n := 2) (t := px_c67_91) (by decide +kernel) rfl (px_f67_91)
set_option maxRecDepth 20000 in
theorem px_f67_38 : px_fine 67 px_c67_38 := px_fine_add (n := 13) (t := px_c67_88) (by decide +kernel) rfl (px_f67_88)
set_option maxRecDepth 20000 in
theorem px_f67_36 : px_fine 67 px_c67_36 := px_fine_add (n := 2) (t := px_c67_38) (by decide +kernel) rfl (px_f67_38)
set_option maxRecDepth 20000 in
theorem px_f67_0 : px_fine 67 px_c67_0 := px_fine_add (n := 18) (t := px_c67_36) (by decide +kernel) rfl (px_f67_36)
set_option maxRecDepth 20000 in
theorem px_f68_34 : px_fine 68 px_c68_34 := px_fine_add (n := 2) (t := []) (by decide +kernel) rfl (px_fine_nil 68)
set_option maxRecDepth 20000 in
theorem px_f68_5 : px_fine 68 px_c68_5 := px_fine_add (n := 15) (t := px_c68_34) (by decide +kernel) rfl (px_f68_34)
set_option maxRecDepth 20000 in
theorem px_f68_0 : px_fine 68 px_c68_0 := px_fine_add (n := 4) (t := px_c68_5) (by decide +kernel) rfl (px_f68_5)
set_option maxRecDepth 20000 in
theorem px_f69_55 : px_fine 69 px_c69_55 := px_fine_add (n := 2) (t := []) (by decide +kernel) rfl (px_fine_nil 69)
set_option maxRecDepth 20000 in
theorem px_f69_49 : px_fine 69 px_c69_49 := px_fine_add (n := 2) (t := px_c69_55) (by decide +kernel) rfl (px_f69_55)
set_option maxRecDepth 20000 in
theorem px_f69_5 : px_fine 69 px_c69_5 := px_fine_add (n := 23) (t := px_c69_49) (by decide +kernel) rfl (px_f69_49)
set_option maxRecDepth 20000 in
theorem px_f69_0 : px_fine 69 px_c69_0 := px_fine_add (n := 4) (t := px_c69_5) (by decide +kernel) rfl (px_f69_5)
set_option maxRecDepth 20000 in
theorem px_f70_90 : px_fine 70 px_c70_90 := px_fine_add (n := 2) (t := []) (by decide +kernel) rfl (px_fine_nil 70)
set_option maxRecDepth 20000 in
theorem px_f70_84 : px_fine 70 px_c70_84 := px_fine_add (n := 2) (t := px_c70_90) (by decide +kernel) rfl (px_f70_90)
set_option maxRecDepth 20000 in
theorem px_f70_63 : px_fine 70 px_c70_63 := px_fine_add (n := 13) (t := px_c70_84) (by decide +kernel) rfl (px_f70_84)
set_option maxRecDepth 20000 in
theorem px_f70_59 : px_fine 70 px_c70_59 := px_fine_add (n := 3) (t := px_c70_63) (by decide +kernel) rfl (px_f70_63)
set_option maxRecDepth 20000 in
theorem px_f70_26 : px_fine 70 px_c70_26 := px_fine_add (n := 17) (t := px_c70_59) (by decide +kernel) rfl (px_f70_59)
set_option maxRecDepth 20000 in
theorem px_f70_4 : px_fine 70 px_c70_4 := px_fine_add (n := 10) (t := px_c70_26) (by decide +kernel) rfl (px_f70_26)
set_option maxRecDepth 20000 in
theorem px_f70_0 : px_fine 70 px_c70_0 := px_fine_add (n := 4) (t := px_c70_4) (by decide +kernel) rfl (px_f70_4)
set_option maxRecDepth 20000 in
theorem px_f71_96 : px_fine 71 px_c71_96 := px_fine_add (n := 1) (t := []) (by decide +kernel) rfl (px_fine_nil 71)
set_option maxRecDepth 20000 in
theorem px_f71_88 : px_fine 71 px_c71_88 := px_fine_add (n := 7) (t := px_c71_96) (by decide +kernel) rfl (px_f71_96)
set_option maxRecDepth 20000 in
theorem px_f71_79 : px_fine 71 px_c71_79 := px_fine_add (n := 5) (t := px_c71_88) (by decide +kernel) rfl (px_f71_88)
set_option maxRecDepth 20000 in
theorem px_f71_73 : px_fine 71 px_c71_73 := px_fine_add (n := 2) (t := px_c71_79) (by decide +kernel) rfl (px_f71_79)
set_option maxRecDepth 20000 in
theorem px_f71_33 : px_fine 71 px_c71_33 := px_fine_add (n := 22) (t := px_c71_73) (by decide +kernel) rfl (px_f71_73)
set_option maxRecDepth 20000 in
theorem px_f71_9 : px_fine 71 px_c71_9 := px_fine_add (n := 10) (t := px_c71_33) (by decide +kernel) rfl (px_f71_33)
set_option maxRecDepth 20000 in
theorem px_f71_0 : px_fine 71 px_c71_0 := px_fine_add (n := 8) (t := px_c71_9) (by decide +kernel) rfl (px_f71_9)
set_option maxRecDepth 20000 in
theorem px_f72_0 : px_fine 72 px_c72_0 := px_fine_add (n := 13) (t := []) (by decide +kernel) rfl (px_fine_nil 72)
set_option maxRecDepth 20000 in
theorem px_f73_94 : px_fine 73 px_c73_94 := px_fine_add (n := 3) (t := []) (by decide +kernel) rfl (px_fine_nil 73)
set_option maxRecDepth 20000 in
theorem px_f73_78 : px_fine 73 px_c73_78 := px_fine_add (n := 8) (t := px_c73_94) (by decide +kernel) rfl (px_f73_94)
set_option maxRecDepth 20000 in
theorem px_f73_60 : px_fine 73 px_c73_60 := px_fine_add (n := 9) (t := px_c73_78) (by decide +kernel) rfl (px_f73_78)
set_option maxRecDepth 20000 in
theorem px_f73_37 : px_fine 73 px_c73_37 := px_fine_add (n := 13) (t := px_c73_60) (by decide +kernel) rfl (px_f73_60)
set_option maxRecDepth 20000 in
theorem px_f73_12 : px_fine 73 px_c73_12 := px_fine_add (n := 14) (t := px_c73_37) (by decide +kernel) rfl (px_f73_37)
set_option maxRecDepth 20000 in
theorem px_f73_0 : px_fine 73 px_c73_0 := px_fine_add (n := 8) (t := px_c73_12) (by decide +kernel) rfl (px_f73_12)
set_option maxRecDepth 20000 in
theorem px_f74_115 : px_fine 74 px_c74_115 := px_fine_add (n := 7) (t := []) (by decide +kernel) rfl (px_fine_nil 74)
set_option maxRecDepth 20000 in
theorem px_f74_109 : px_fine 74 px_c74_109 := px_fine_add (n := 2) (t := px_c74_115) (by decide +kernel) rfl (px_f74_115)
set_option maxRecDepth 20000 in
theorem px_f74_82 : px_fine 74 px_c74_82 := px_fine_add (n := 15) (t := px_c74_109) (by decide +kernel) rfl (px_f74_109)
set_option maxRecDepth 20000 in
theorem px_f74_53 : px_fine 74 px_c74_53 := px_fine_add (n := 14) (t := px_c74_82) (by decide +kernel) rfl (px_f74_82)
set_option maxRecDepth 20000 in
theorem px_f74_42 : px_fine 74 px_c74_42 := px_fine_add (n := 6) (t := px_c74_53) (by decide +kernel) rfl (px_f74_53)
set_option maxRecDepth 20000 in
theorem px_f74_31 : px_fine 74 px_c74_31 := px_fine_add (n := 6) (t := px_c74_42) (by decide +kernel) rfl (px_f74_42)
set_option maxRecDepth 20000 in
theorem px_f74_26 : px_fine 74 px_c74_26 := px_fine_add (n := 3) (t := px_c74_31) (by decide +kernel) rfl (px_f74_31)
set_option maxRecDepth 20000 in
theorem px_f74_0 : px_fine 74 px_c74_0 := px_fine_add (n := 13) (t := px_c74_26) (by decide +kernel) rfl (px_f74_26)
set_option maxRecDepth 20000 in
theorem px_f75_61 : px_fine 75 px_c75_61 := px_fine_add (n := 2) (t := []) (by decide +kernel) rfl (px_fine_nil 75)
set_option maxRecDepth 20000 in
theorem px_f75_55 : px_fine 75 px_c75_55 := px_fine_add (n := 2) (t := px_c75_61) (by decide +kernel) rfl (px_f75_61)
set_option maxRecDepth 20000 in
theorem px_f75_7 : px_fine 75 px_c75_7 := px_fine_add (n := 25) (t := px_c75_55) (by decide +kernel) rfl (px_f75_55)
set_option maxRecDepth 20000 in
theorem px_f75_0 : px_fine 75 px_c75_0 := px_fine_add (n := 5) (t := px_c75_7) (by decide +kernel) rfl (px_f75_7)
set_option maxRecDepth 20000 in
theorem px_f76_31 : px_fine 76 px_c76_31 := px_fine_add (n := 2) (t := []) (by decide +kernel) rfl (px_fine_nil 76)
set_option maxRecDepth 20000 in
theorem px_f76_2 : px_fine 76 px_c76_2 := px_fine_add (n := 15) (t := px_c76_31) (by decide +kernel) rfl (px_f76_31)
set_option maxRecDepth 20000 in
theorem px_f76_0 : px_fine 76 px_c76_0 := px_fine_add (n := 2) (t := px_c76_2) (by decide +kernel) rfl (px_f76_2)
set_option maxRecDepth 20000 in
theorem px_f77_83 : px_fine 77 px_c77_83 := px_fine_add (n := 13) (t := []) (by decide +kernel) rfl (px_fine_nil 77)
set_option maxRecDepth 20000 in
theorem px_f77_81 : px_fine 77 px_c77_81 := px_fine_add (n := 2) (t := px_c77_83) (by decide +kernel) rfl (px_f77_83)
set_option maxRecDepth 20000 in
theorem px_f77_57 : px_fine 77 px_c77_57 := px_fine_add (n := 12) (t := px_c77_81) (by decide +kernel) rfl (px_f77_81)
set_option maxRecDepth 20000 in
theorem px_f77_6 : px_fine 77 px_c77_6 := px_fine_add (n := 26) (t := px_c77_57) (by decide +kernel) rfl (px_f77_57)
set_option maxRecDepth 20000 in
theorem px_f77_0 : px_fine 77 px_c77_0 := px_fine_add (n := 4) (t := px_c77_6) (by decide +kernel) rfl (px_f77_6)
set_option maxRecDepth 20000 in
theorem px_f78_17 : px_fine 78 px_c78_17 := px_fine_add (n := 1) (t := []) (by decide +kernel) rfl (px_fine_nil 78)
set_option maxRecDepth 20000 in
theorem px_f78_16 : px_fine 78 px_c78_16 := px_fine_add (n := 1) (t := px_c78_17) (by decide +kernel) rfl (px_f78_17)
set_option maxRecDepth 20000 in
theorem px_f78_0 : px_fine 78 px_c78_0 := px_fine_add (n := 8) (t := px_c78_16) (by decide +kernel) rfl (px_f78_16)
set_option maxRecDepth 20000 in
theorem px_f79_0 : px_fine 79 px_c79_0 := px_fine_add (n := 15) (t := []) (by decide +kernel) rfl (px_fine_nil 79)
set_option maxRecDepth 20000 in
theorem px_f80_16 : px_fine 80 px_c80_16 := px_fine_add (n := 1) (t := []) (by decide +kernel) rfl (px_fine_nil 80)
set_option maxRecDepth 20000 in
theorem px_f80_15 : px_fine 80 px_c80_15 := px_fine_add (n := 1) (t := px_c80_16) (by decide +kernel) rfl (px_f80_16)
set_option maxRecDepth 20000 in
theorem px_f80_0 : px_fine 80 px_c80_0 := px_fine_add (n := 7) (t := px_c80_15) (by decide +kernel) rfl (px_f80_15)
set_option maxRecDepth 20000 in
theorem px_f81_17 : px_fine 81 px_c81_17 := px_fine_add (n := 1) (t := []) (by decide +kernel) rfl (px_fine_nil 81)
set_option maxRecDepth 20000 in
theorem px_f81_16 : px_fine 81 px_c81_16 := px_fine_add (n := 1) (t := px_c81_17) (by decide +kernel) rfl (px_f81_17)
set_option maxRecDepth 20000 in
theorem px_f81_0 : px_fine 81 px_c81_0 := px_fine_add (n := 8) (t := px_c81_16) (by decide +kernel) rfl (px_f81_16)
set_option maxRecDepth 20000 in
theorem px_f82_45 : px_fine 82 px_c82_45 := px_fine_add (n := 1) (t := []) (by decide +kernel) rfl (px_fine_nil 82)
set_option maxRecDepth 20000 in
theorem px_f82_44 : px_fine 82 px_c82_44 := px_fine_add (n := 1) (t := px_c82_45) (by decide +kernel) rfl (px_f82_45)
set_option maxRecDepth 20000 in
theorem px_f82_26 : px_fine 82 px_c82_26 := px_fine_add (n := 12) (t := px_c82_44) (by decide +kernel) rfl (px_f82_44)
set_option maxRecDepth 20000 in
theorem px_f82_25 : px_fine 82 px_c82_25 := px_fine_add (n := 1) (t := px_c82_26) (by decide +kernel) rfl (px_f82_26)
set_option maxRecDepth 20000 in
theorem px_f82_0 : px_fine 82 px_c82_0 := px_fine_add (n := 13) (t := px_c82_25) (by decide +kernel) rfl (px_f82_25)
set_option maxRecDepth 20000 in
theorem px_f83_28 : px_fine 83 px_c83_28 := px_fine_add (n := 1) (t := []) (by decide +kernel) rfl (px_fine_nil 83)
set_option maxRecDepth 20000 in
theorem px_f83_0 : px_fine 83 px_c83_0 := px_fine_add (n := 18) (t := px_c83_28) (by decide +kernel) rfl (px_f83_28)
set_option maxRecDepth 20000 in
theorem px_f84_9 : px_fine 84 px_c84_9 := px_fine_add (n := 31) (t := []) (by decide +kernel) rfl (px_fine_nil 84)
set_option maxRecDepth 20000 in
theorem px_f84_0 : px_fine 84 px_c84_0 := px_fine_add (n := 5) (t := px_c84_9) (by decide +kernel) rfl (px_f84_9)
set_option maxRecDepth 20000 in
theorem px_f85_0 : px_fine 85 px_c85_0 := px_fine_add (n := 21) (t := []) (by decide +kernel) rfl (px_fine_nil 85)
set_option maxRecDepth 20000 in
theorem px_f86_135 : px_fine 86 px_c86_135 := px_fine_add (n := 1) (t := []) (by decide +kernel) rfl (px_fine_nil 86)
set_option maxRecDepth 20000 in
theorem px_f86_110 : px_fine 86 px_c86_110 := px_fine_add (n := 12) (t := px_c86_135) (by decide +kernel) rfl (px_f86_135)
set_option maxRecDepth 20000 in
theorem px_f86_0 : px_fine 86 px_c86_0 := px_fine_add (n := 53) (t := px_c86_110) (by decide +kernel) rfl (px_f86_110)
set_option maxRecDepth 20000 in
theorem px_f87_53 : px_fine 87 px_c87_53 := px_fine_add (n := 9) (t := []) (by decide +kernel) rfl (px_fine_nil 87)
set_option maxRecDepth 20000 in
theorem px_f87_40 : px_fine 87 px_c87_40 := px_fine_add (n := 7) (t := px_c87_53) (by decide +kernel) rfl (px_f87_53)
set_option maxRecDepth 20000 in
theorem px_f87_33 : px_fine 87 px_c87_33 := px_fine_add (n := 4) (t := px_c87_40) (by decide +kernel) rfl (px_f87_40)
set_option maxRecDepth 20000 in
theorem px_f87_24 : px_fine 87 px_c87_24 := px_fine_add (n := 5) (t := px_c87_33) (by decide +kernel) rfl (px_f87_33)
set_option maxRecDepth 20000 in
theorem px_f87_13 : px_fine 87 px_c87_13 := px_fine_add (n := 6) (t := px_c87_24) (by decide +kernel) rfl (px_f87_24)
set_option maxRecDepth 20000 in
theorem px_f87_0 : px_fine 87 px_c87_0 := px_fine_add (n := 7) (t := px_c87_13) (by decide +kernel) rfl (px_f87_13)
set_option maxRecDepth 20000 in
theorem px_f88_39 : px_fine 88 px_c88_39 := px_fine_add (n := 9) (t := []) (by decide +kernel) rfl (px_fine_nil 88)
set_option maxRecDepth 20000 in
theorem px_f88_19 : px_fine 88 px_c88_19 := px_fine_add (n := 11) (t := px_c88_39) (by decide +kernel) rfl (px_f88_39)
set_option maxRecDepth 20000 in
theorem px_f88_0 : px_fine 88 px_c88_0 := px_fine_add (n := 10) (t := px_c88_19) (by decide +kernel) rfl (px_f88_19)
set_option maxRecDepth 20000 in
theorem px_f89_160 : px_fine 89 px_c89_160 := px_fine_add (n := 10) (t := []) (by decide +kernel) rfl (px_fine_nil 89)
set_option maxRecDepth 20000 in
theorem px_f89_153 : px_fine 89 px_c89_153 := px_fine_add (n := 4) (t := px_c89_160) (by decide +kernel) rfl (px_f89_160)
set_option maxRecDepth 20000 in
theorem px_f89_130 : px_fine 89 px_c89_130 := px_fine_add (n := 10) (t := px_c89_153) (by decide +kernel) rfl (px_f89_153)
set_option maxRecDepth 20000 in
theorem px_f89_118 : px_fine 89 px_c89_118 := px_fine_add (n := 6) (t := px_c89_130) (by decide +kernel) rfl (px_f89_130)
set_option maxRecDepth 20000 in
theorem px_f89_111 : px_fine 89 px_c89_111 := px_fine_add (n := 4) (t := px_c89_118) (by decide +kernel) rfl (px_f89_118)
set_option maxRecDepth 20000 in
theorem px_f89_95 : px_fine 89 px_c89_95 := px_fine_add (n := 6) (t := px_c89_111) (by decide +kernel) rfl (px_f89_111)
set_option maxRecDepth 20000 in
theorem px_f89_59 : px_fine 89 px_c89_59 := px_fine_add (n := 15) (t := px_c89_95) (by decide +kernel) rfl (px_f89_95)
set_option maxRecDepth 20000 in
theorem px_f89_52 : px_fine 89 px_c89_52 := px_fine_add (n := 4) (t := px_c89_59) (by decide +kernel) rfl (px_f89_59)
set_option maxRecDepth 20000 in
theorem px_f89_20 : px_fine 89 px_c89_20 := px_fine_add (n := 16) (t := px_c89_52) (by decide +kernel) rfl (px_f89_52)
set_option maxRecDepth 20000 in
theorem px_f89_14 : px_fine 89 px_c89_14 := px_fine_add (n := 4) (t := px_c89_20) (by decide +kernel) rfl (px_f89_20)
set_option maxRecDepth 20000 in
theorem px_f89_0 : px_fine 89 px_c89_0 := px_fine_add (n := 6) (t := px_c89_14) (by decide +kernel) rfl (px_f89_14)
set_option maxRecDepth 20000 in
theorem px_f90_21 : px_fine 90 px_c90_21 := px_fine_add (n := 7) (t := []) (by decide +kernel) rfl (px_fine_nil 90)
set_option maxRecDepth 20000 in
theorem px_f90_19 : px_fine 90 px_c90_19 := px_fine_add (n := 2) (t := px_c90_21) (by decide +kernel) rfl (px_f90_21)
set_option maxRecDepth 20000 in
theorem px_f90_0 : px_fine 90 px_c90_0 := px_fine_add (n := 9) (t := px_c90_19) (by decide +kernel) rfl (px_f90_19)
set_option maxRecDepth 20000 in
theorem px_f91_55 : px_fine 91 px_c91_55 := px_fine_add (n := 12) (t := []) (by decide +kernel) rfl (px_fine_nil 91)
set_option maxRecDepth 20000 in
theorem px_f91_40 : px_fine 91 px_c91_40 := px_fine_add (n := 8) (t := px_c91_55) (by decide +kernel) rfl (px_f91_55)
set_option maxRecDepth 20000 in
theorem px_f91_24 : px_fine 91 px_c91_24 := px_fine_add (n := 10) (t := px_c91_40) (by decide +kernel) rfl (px_f91_40)
set_option maxRecDepth 20000 in
theorem px_f91_18 : px_fine 91 px_c91_18 := px_fine_add (n := 4) (t := px_c91_24) (by decide +kernel) rfl (px_f91_24)
set_option maxRecDepth 20000 in
theorem px_f91_0 : px_fine 91 px_c91_0 := px_fine_add (n := 9) (t := px_c91_18) (by decide +kernel) rfl (px_f91_18)
set_option maxRecDepth 20000 in
theorem px_f92_20 : px_fine 92 px_c92_20 := px_fine_add (n := 1) (t := []) (by decide +kernel) rfl (px_fine_nil 92)
set_option maxRecDepth 20000 in
theorem px_f92_19 : px_fine 92 px_c92_19 := px_fine_add (n := 1) (t := px_c92_20) (by decide +kernel) rfl (px_f92_20)
set_option maxRecDepth 20000 in
theorem px_f92_0 : px_fine 92 px_c92_0 := px_fine_add (n := 9) (t := px_c92_19) (by decide +kernel) rfl (px_f92_19)
set_option maxRecDepth 20000 in
theorem px_f93_121 : px_fine 93 px_c93_121 := px_fine_add (n := 3) (t := []) (by decide +kernel) rfl (px_fine_nil 93)
set_option maxRecDepth 20000 in
theorem px_f93_115 : px_fine 93 px_c93_115 := px_fine_add (n := 3) (t := px_c93_121) (by decide +kernel) rfl (px_f93_121)
set_option maxRecDepth 20000 in
theorem px_f93_105 : px_fine 93 px_c93_105 := px_fine_add (n := 5) (t := px_c93_115) (by decide +kernel) rfl (px_f93_115)
set_option maxRecDepth 20000 in
theorem px_f93_92 : px_fine 93 px_c93_92 := px_fine_add (n := 6) (t := px_c93_105) (by decide +kernel) rfl (px_f93_105)
set_option maxRecDepth 20000 in
theorem px_f93_56 : px_fine 93 px_c93_56 := px_fine_add (n := 2) (t := px_c93_92) (by decide +kernel) rfl (px_f93_92)
set_option maxRecDepth 20000 in
theorem px_f93_32 : px_fine 93 px_c93_32 := px_fine_add (n := 13) (t := px_c93_56) (by decide +kernel) rfl (px_f93_56)
set_option maxRecDepth 20000 in
theorem px_f93_16 : px_fine 93 px_c93_16 := px_fine_add (n := 10) (t := px_c93_32) (by decide +kernel) rfl (px_f93_32)
set_option maxRecDepth 20000 in
theorem px_f93_10 : px_fine 93 px_c93_10 := px_fine_add (n := 4) (t := px_c93_16) (by decide +kernel) rfl (px_f93_16)
set_option maxRecDepth 20000 in
theorem px_f93_0 : px_fine 93 px_c93_0 := px_fine_add (n := 5) (t := px_c93_10) (by decide +kernel) rfl (px_f93_10)
set_option maxRecDepth 20000 in
theorem px_f94_71 : px_fine 94 px_c94_71 := px_fine_add (n := 9) (t := []) (by decide +kernel) rfl (px_fine_nil 94)
set_option maxRecDepth 20000 in
theorem px_f94_51 : px_fine 94 px_c94_51 := px_fine_add (n := 9) (t := px_c94_71) (by decide +kernel) rfl (px_f94_71)
set_option maxRecDepth 20000 in
theorem px_f94_44 : px_fine 94 px_c94_44 := px_fine_add (n := 4) (t := px_c94_51) (by decide +kernel) rfl (px_f94_51)
set_option maxRecDepth 20000 in
theorem px_f94_25 : px_fine 94 px_c94_25 := px_fine_add (n := 10) (t := px_c94_44) (by decide +kernel) rfl (px_f94_44)
set_option maxRecDepth 20000 in
theorem px_f94_18 : px_fine 94 px_c94_18 := px_fine_add (n := 4) (t := px_c94_25) (by decide +kernel) rfl (px_f94_25)
set_option maxRecDepth 20000 in
theorem px_f94_0 : px_fine 94 px_c94_0 := px_fine_add (n := 10) (t := px_c94_18) (by decide +kernel) rfl (px_f94_18)
set_option maxRecDepth 20000 in
theorem px_f95_49 : px_fine 95 px_c95_49 := px_fine_add (n := 9) (t := []) (by decide +kernel) rfl (px_fine_nil 95)
set_option maxRecDepth 20000 in
theorem px_f95_29 : px_fine 95 px_c95_29 := px_fine_add (n := 9) (t := px_c95_49) (by decide +kernel) rfl (px_f95_49)
set_option maxRecDepth 20000 in
theorem px_f95_13 : px_fine 95 px_c95_13 := px_fine_add (n := 9) (t := px_c95_29) (by decide +kernel) rfl (px_f95_29)
set_option maxRecDepth 20000 in
theorem px_f95_0 : px_fine 95 px_c95_0 := px_fine_add (n := 7) (t := px_c95_13) (by decide +kernel) rfl (px_f95_13)
set_option maxRecDepth 20000 in
theorem px_f96_73 : px_fine 96 px_c96_73 := px_fine_add (n := 9) (t := []) (by decide +kernel) rfl (px_fine_nil 96)
set_option maxRecDepth 20000 in
theorem px_f96_58 : px_fine 96 px_c96_58 := px_fine_add (n := 8) (t := px_c96_73) (by decide +kernel) rfl (px_f96_73)
set_option maxRecDepth 20000 in
theorem px_f96_51 : px_fine 96 px_c96_51 := px_fine_add (n := 3) (t := px_c96_58) (by decide +kernel) rfl (px_f96_58)
set_option maxRecDepth 20000 in
theorem px_f96_36 : px_fine 96 px_c96_36 := px_fine_add (n := 7) (t := px_c96_51) (by decide +kernel) rfl (px_f96_51)
set_option maxRecDepth 20000 in
theorem px_f96_22 : px_fine 96 px_c96_22 := px_fine_add (n := 6) (t := px_c96_36) (by decide +kernel) rfl (px_f96_36)
set_option maxRecDepth 20000 in
theorem px_f96_16 : px_fine 96 px_c96_16 := px_fine_add (n := 4) (t := px_c96_22) (by decide +kernel) rfl (px_f96_22)
set_option maxRecDepth 20000 in
theorem px_f96_0 : px_fine 96 px_c96_0 := px_fine_add (n := 8) (t := px_c96_16) (by decide +kernel) rfl (px_f96_16)
set_option maxRecDepth 20000 in
theorem px_f97_50 : px_fine 97 px_c97_50 := px_fine_add (n := 11) (t := []) (by decide +kernel) rfl (px_fine_nil 97)
set_option maxRecDepth 20000 in
theorem px_f97_30 : px_fine 97 px_c97_30 := px_fine_add (n := 9) (t := px_c97_50) (by decide +kernel) rfl (px_f97_50)
set_option maxRecDepth 20000 in
theorem px_f97_13 : px_fine 97 px_c97_13 := px_fine_add (n := 9) (t := px_c97_30) (by decide +kernel) rfl (px_f97_30)
set_option maxRecDepth 20000 in
theorem px_f97_0 : px_fine 97 px_c97_0 := px_fine_add (n := 7) (t := px_c97_13) (by decide +kernel) rfl (px_f97_13)
set_option maxRecDepth 20000 in
theorem px_f98_60 : px_fine 98 px_c98_60 := px_fine_add (n := 9) (t := []) (by decide +kernel) rfl (px_fine_nil 98)
set_option maxRecDepth 20000 in
theorem px_f98_40 : px_fine 98 px_c98_40 := px_fine_add (n := 9) (t := px_c98_60) (by decide +kernel) rfl (px_f98_60)
set_option maxRecDepth 20000 in
theorem px_f98_33 : px_fine 98 px_c98_33 := px_fine_add (n := 4) (t := px_c98_40) (by decide +kernel) rfl (px_f98_40)
set_option maxRecDepth 20000 in
theorem px_f98_13 : px_fine 98 px_c98_13 := px_fine_add (n := 10) (t := px_c98_33) (by decide +kernel) rfl (px_f98_33)
set_option maxRecDepth 20000 in
theorem px_f98_0 : px_fine 98 px_c98_0 := px_fine_add (n := 7) (t := px_c98_13) (by decide +kernel) rfl (px_f98_13)
set_option maxRecDepth 20000 in
theorem px_f99_25 : px_fine 99 px_c99_25 := px_fine_add (n := 14) (t := []) (by decide +kernel) rfl (px_fine_nil 99)
set_option maxRecDepth 20000 in
theorem px_f99_18 : px_fine 99 px_c99_18 := px_fine_add (n := 4) (t := px_c99_25) (by decide +kernel) rfl (px_f99_25)
set_option maxRecDepth 20000 in
theorem px_f99_0 : px_fine 99 px_c99_0 := px_fine_add (n := 10) (t := px_c99_18) (by decide +kernel) rfl (px_f99_18)
set_option maxRecDepth 20000 in
theorem px_f100_63 : px_fine 100 px_c100_63 := px_fine_add (n := 9) (t := []) (by decide +kernel) rfl (px_fine_nil 100)
set_option maxRecDepth 20000 in
theorem px_f100_16 : px_fine 100 px_c100_16 := px_fine_add (n := 24) (t := px_c100_63) (by decide +kernel) rfl (px_f100_63)
set_option maxRecDepth 20000 in
theorem px_f100_0 : px_fine 100 px_c100_0 := px_fine_add (n := 10) (t := px_c100_16) (by decide +kernel) rfl (px_f100_16)
set_option maxRecDepth 20000 in
theorem px_f101_0 : px_fine 101 px_c101_0 := px_fine_add (n := 3) (t := []) (by decide +kernel) rfl (px_fine_nil 101)
set_option maxRecDepth 20000 in
theorem px_f102_30 : px_fine 102 px_c102_30 := px_fine_add (n := 7) (t := []) (by decide +kernel) rfl (px_fine_nil 102)
set_option maxRecDepth 20000 in
theorem px_f102_23 : px_fine 102 px_c102_23 := px_fine_add (n := 4) (t := px_c102_30) (by decide +kernel) rfl (px_f102_30)
set_option maxRecDepth 20000 in
theorem px_f102_0 : px_fine 102 px_c102_0 := px_fine_add (n := 11) (t := px_c102_23) (by decide +kernel) rfl (px_f102_23)
set_option maxRecDepth 20000 in
theorem px_f103_30 : px_fine 103 px_c103_30 := px_fine_add (n := 7) (t := []) (by decide +kernel) rfl (px_fine_nil 103)
set_option maxRecDepth 20000 in
theorem px_f103_23 : px_fine 103 px_c103_23 := px_fine_add (n := 4) (t := px_c103_30) (by decide +kernel) rfl (px_f103_30)
set_option maxRecDepth 20000 in
theorem px_f103_0 : px_fine 103 px_c103_0 := px_fine_add (n := 11) (t := px_c103_23) (by decide +kernel) rfl (px_f103_23)
set_option maxRecDepth 20000 in
theorem px_f104_49 : px_fine 104 px_c104_49 := px_fine_add (n := 14) (t := []) (by decide +kernel) rfl (px_fine_nil 104)
set_option maxRecDepth 20000 in
theorem px_f104_38 : px_fine 104 px_c104_38 := px_fine_add (n := 7) (t := px_c104_49) (by decide +kernel) rfl (px_f104_49)
set_option maxRecDepth 20000 in
theorem px_f104_37 : px_fine 104 px_c104_37 := px_fine_add (n := 1) (t := px_c104_38) (by decide +kernel) rfl (px_f104_38)
set_option maxRecDepth 20000 in
theorem px_f104_33 : px_fine 104 px_c104_33 := px_fine_add (n := 2) (t := px_c104_37) (by decide +kernel) rfl (px_f104_37)
set_option maxRecDepth 20000 in
theorem px_f104_0 : px_fine 104 px_c104_0 := px_fine_add (n := 15) (t := px_c104_33) (by decide +kernel) rfl (px_f104_33)
set_option maxRecDepth 20000 in
theorem px_f105_78 : px_fine 105 px_c105_78 := px_fine_add (n := 1) (t := []) (by decide +kernel) rfl (px_fine_nil 105)
set_option maxRecDepth 20000 in
theorem px_f105_77 : px_fine 105 px_c105_77 := px_fine_add (n := 1) (t := px_c105_78) (by decide +kernel) rfl (px_f105_78)
set_option maxRecDepth 20000 in
theorem px_f105_65 : px_fine 105 px_c105_65 := px_fine_add (n := 6) (t := px_c105_77) (by decide +kernel) rfl (px_f105_77)
set_option maxRecDepth 20000 in
theorem px_f105_64 : px_fine 105 px_c105_64 := px_fine_add (n := 1) (t := px_c105_65) (by decide +kernel) rfl (px_f105_65)
set_option maxRecDepth 20000 in
theorem px_f105_38 : px_fine 105 px_c105_38 := px_fine_add (n := 14) (t := px_c105_64) (by decide +kernel) rfl (px_f105_64)
set_option maxRecDepth 20000 in
theorem px_f105_20 : px_fine 105 px_c105_20 := px_fine_add (n := 9) (t := px_c105_38) (by decide +kernel) rfl (px_f105_38)
set_option maxRecDepth 20000 in
theorem px_f105_0 : px_fine 105 px_c105_0 := px_fine_add (n := 10) (t := px_c105_20) (by decide +kernel) rfl (px_f105_20)
set_option maxRecDepth 20000 in
theorem px_f106_43 : px_fine 106 px_c106_43 := px_fine_add (n := 10) (t := []) (by decide +kernel) rfl (px_fine_nil 106)
set_option maxRecDepth 20000 in
theorem px_f106_26 : px_fine 106 px_c106_26 := px_fine_add (n := 8) (t := px_c106_43) (by decide +kernel) rfl (px_f106_43)
set_option maxRecDepth 20000 in
theorem px_f106_25 : px_fine 106 px_c106_25 := px_fine_add (n := 1) (t := px_c106_26) (by decide +kernel) rfl (px_f106_26)
set_option maxRecDepth 20000 in
theorem px_f106_0 : px_fine 106 px_c106_0 := px_fine_add (n := 12) (t := px_c106_25) (by decide +kernel) rfl (px_f106_25)
set_option maxRecDepth 20000 in
theorem px_f107_43 : px_fine 107 px_c107_43 := px_fine_add (n := 18) (t := []) (by decide +kernel) rfl (px_fine_nil 107)
set_option maxRecDepth 20000 in
theorem px_f107_26 : px_fine 107 px_c107_26 := px_fine_add (n := 8) (t := px_c107_43) (by decide +kernel) rfl (px_f107_43)
set_option maxRecDepth 20000 in
theorem px_f107_25 : px_fine 107 px_c107_25 := px_fine_add (n := 1) (t := px_c107_26) (by decide +kernel) rfl (px_f107_26)
set_option maxRecDepth 20000 in
theorem px_f107_0 : px_fine 107 px_c107_0 := px_fine_add (n := 12) (t := px_c107_25) (by decide +kernel) rfl (px_f107_25)
set_option maxRecDepth 20000 in
theorem px_f108_39 : px_fine 108 px_c108_39 := px_fine_add (n := 9) (t := []) (by decide +kernel) rfl (px_fine_nil 108)
set_option maxRecDepth 20000 in
theorem px_f108_22 : px_fine 108 px_c108_22 := px_fine_add (n := 8) (t := px_c108_39) (by decide +kernel) rfl (px_f108_39)
set_option maxRecDepth 20000 in
theorem px_f108_21 : px_fine 108 px_c108_21 := px_fine_add (n := 1) (t := px_c108_22) (by decide +kernel) rfl (px_f108_22)
set_option maxRecDepth 20000 in
theorem px_f108_0 : px_fine 108 px_c108_0 := px_fine_add (n := 11) (t := px_c108_21) (by decide +kernel) rfl (px_f108_21)
set_option maxRecDepth 20000 in
theorem px_f109_75 : px_fine 109 px_c109_75 := px_fine_add (n := 1) (t := []) (by decide +kernel) rfl (px_fine_nil 109)
set_option maxRecDepth 20000 in
theorem px_f109_62 : px_fine 109 px_c109_62 := px_fine_add (n := 6) (t := px_c109_75) (by decide +kernel) rfl (px_f109_75)
set_option maxRecDepth 20000 in
theorem px_f109_39 : px_fine 109 px_c109_39 := px_fine_add (n := 13) (t := px_c109_62) (by decide +kernel) rfl (px_f109_62)
set_option maxRecDepth 20000 in
theorem px_f109_22 : px_fine 109 px_c109_22 := px_fine_add (n := 8) (t := px_c109_39) (by decide +kernel) rfl (px_f109_39)
set_option maxRecDepth 20000 in
theorem px_f109_21 : px_fine 109 px_c109_21 := px_fine_add (n := 1) (t := px_c109_22) (by decide +kernel) rfl (px_f109_22)
set_option maxRecDepth 20000 in
theorem px_f109_0 : px_fine 109 px_c109_0 := px_fine_add (n := 11) (t := px_c109_21) (by decide +kernel) rfl (px_f109_21)
set_option maxRecDepth 20000 in
theorem px_f110_31 : px_fine 110 px_c110_31 := px_fine_add (n := 6) (t := []) (by decide +kernel) rfl (px_fine_nil 110)
set_option maxRecDepth 20000 in
theorem px_f110_25 : px_fine 110 px_c110_25 := px_fine_add (n := 4) (t := px_c110_31) (by decide +kernel) rfl (px_f110_31)
set_option maxRecDepth 20000 in
theorem px_f110_0 : px_fine 110 px_c110_0 := px_fine_add (n := 11) (t := px_c110_25) (by decide +kernel) rfl (px_f110_25)
set_option maxRecDepth 20000 in
theorem px_f111_0 : px_fine 111 px_c111_0 := px_fine_add (n := 6) (t := []) (by decide +kernel) rfl (px_fine_nil 111)
set_option maxRecDepth 20000 in
theorem px_f112_0 : px_fine 112 px_c112_0 := px_fine_add (n := 6) (t := []) (by decide +kernel) rfl (px_fine_nil 112)
set_option maxRecDepth 20000 in
theorem px_f113_0 : px_fine 113 px_c113_0 := px_fine_add (n := 6) (t := []) (by decide +kernel) rfl (px_fine_nil 113)
set_option maxRecDepth 20000 in
theorem px_f114_34 : px_fine 114 px_c114_34 := px_fine_add (n := 11) (t := []) (by decide +kernel) rfl (px_fine_nil 114)
set_option maxRecDepth 20000 in
theorem px_f114_20 : px_fine 114 px_c114_20 := px_fine_add (n := 7) (t := px_c114_34) (by decide +kernel) rfl (px_f114_34)
set_option maxRecDepth 20000 in
theorem px_f114_0 : px_fine 114 px_c114_0 := px_fine_add (n := 10) (t := px_c114_20) (by decide +kernel) rfl (px_f114_20)
set_option maxRecDepth 20000 in
theorem px_f115_124 : px_fine 115 px_c115_124 := px_fine_add (n := 1) (t := []) (by decide +kernel) rfl (px_fine_nil 115)
set_option maxRecDepth 20000 in
theorem px_f115_123 : px_fine 115 px_c115_123 := px_fine_add (n := 1) (t := px_c115_124) (by decide +kernel) rfl (px_f115_124)
set_option maxRecDepth 20000 in
theorem px_f115_109 : px_fine 115 px_c115_109 := px_fine_add (n := 7) (t := px_c115_123) (by decide +kernel) rfl (px_f115_123)
set_option maxRecDepth 20000 in
theorem px_f115_103 : px_fine 115 px_c115_103 := px_fine_add (n := 2) (t := px_c115_109) (by decide +kernel) rfl (px_f115_109)
set_option maxRecDepth 20000 in
theorem px_f115_97 : px_fine 115 px_c115_97 := px_fine_add (n := 4) (t := px_c115_103) (by decide +kernel) rfl (px_f115_103)
set_option maxRecDepth 20000 in
theorem px_f115_73 : px_fine 115 px_c115_73 := px_fine_add (n := 12) (t := px_c115_97) (by decide +kernel) rfl (px_f115_97)
set_option maxRecDepth 20000 in
theorem px_f115_21 : px_fine 115 px_c115_21 := px_fine_add (n := 24) (t := px_c115_73) (by decide +kernel) rfl (px_f115_73)
set_option maxRecDepth 20000 in
theorem px_f115_14 : px_fine 115 px_c115_14 := px_fine_add (n := 6) (t := px_c115_21) (by decide +kernel) rfl (px_f115_21)
set_option maxRecDepth 20000 in
theorem px_f115_0 : px_fine 115 px_c115_0 := px_fine_add (n := 7) (t := px_c115_14) (by decide +kernel) rfl (px_f115_14)
set_option maxRecDepth 20000 in
theorem px_f116_61 : px_fine 116 px_c116_61 := px_fine_add (n := 2) (t := []) (by decide +kernel) rfl (px_fine_nil 116)
set_option maxRecDepth 20000 in
theorem px_f116_55 : px_fine 116 px_c116_55 := px_fine_add (n := 2) (t := px_c116_61) (by decide +kernel) rfl (px_f116_61)
set_option maxRecDepth 20000 in
theorem px_f116_24 : px_fine 116 px_c116_24 := px_fine_add (n := 18) (t := px_c116_55) (by decide +kernel) rfl (px_f116_55)
set_option maxRecDepth 20000 in
theorem px_f116_20 : px_fine 116 px_c116_20 := px_fine_add (n := 4) (t := px_c116_24) (by decide +kernel) rfl (px_f116_24)
set_option maxRecDepth 20000 in
theorem px_f116_0 : px_fine 116 px_c116_0 := px_fine_add (n := 10) (t := px_c116_20) (by decide +kernel) rfl (px_f116_20)
set_option maxRecDepth 20000 in
theorem px_f117_74 : px_fine 117 px_c117_74 := px_fine_add (n := 2) (t := []) (by decide +kernel) rfl (px_fine_nil 117)
set_option maxRecDepth 20000 in
theorem px_f117_68 : px_fine 117 px_c117_68 := px_fine_add (n := 2) (t := px_c117_74) (by decide +kernel) rfl (px_f117_74)
set_option maxRecDepth 20000 in
theorem px_f117_63 : px_fine 117 px_c117_63 := px_fine_add (n := 4) (t := px_c117_68) (by decide +kernel) rfl (px_f117_68)
set_option maxRecDepth 20000 in
theorem px_f117_6 : px_fine 117 px_c117_6 := px_fine_add (n := 28) (t := px_c117_63) (by decide +kernel) rfl (px_f117_63)
set_option maxRecDepth 20000 in
theorem px_f117_0 : px_fine 117 px_c117_0 := px_fine_add (n := 6) (t := px_c117_6) (by decide +kernel) rfl (px_f117_6)
set_option maxRecDepth 20000 in
theorem px_f118_27 : px_fine 118 px_c118_27 := px_fine_add (n := 18) (t := []) (by decide +kernel) rfl (px_fine_nil 118)
set_option maxRecDepth 20000 in
theorem px_f118_0 : px_fine 118 px_c118_0 := px_fine_add (n := 14) (t := px_c118_27) (by decide +kernel) rfl (px_f118_27)
set_option maxRecDepth 20000 in
theorem px_f119_138 : px_fine 119 px_c119_138 := px_fine_add (n := 2) (t := []) (by decide +kernel) rfl (px_fine_nil 119)
set_option maxRecDepth 20000 in
theorem px_f119_132 : px_fine 119 px_c119_132 := px_fine_add (n := 2) (t := px_c119_138) (by decide +kernel) rfl (px_f119_138)
set_option maxRecDepth 20000 in
theorem px_f119_87 : px_fine 119 px_c119_87 := px_fine_add (n := 23) (t := px_c119_132) (by decide +kernel) rfl (px_f119_132)
set_option maxRecDepth 20000 in
theorem px_f119_59 : px_fine 119 px_c119_59 := px_fine_add (n := 13) (t := px_c119_87) (by decide +kernel) rfl (px_f119_87)
set_option maxRecDepth 20000 in
theorem px_f119_34 : px_fine 119 px_c119_34 := px_fine_add (n := 14) (t := px_c119_59) (by decide +kernel) rfl (px_f119_59)
set_option maxRecDepth 20000 in
theorem px_f119_20 : px_fine 119 px_c119_20 := px_fine_add (n := 7) (t := px_c119_34) (by decide +kernel) rfl (px_f119_34)
set_option maxRecDepth 20000 in
theorem px_f119_0 : px_fine 119 px_c119_0 := px_fine_add (n := 10) (t := px_c119_20) (by decide +kernel) rfl (px_f119_20)
set_option maxRecDepth 20000 in
theorem px_f120_80 : px_fine 120 px_c120_80 := px_fine_add (n := 2) (t := []) (by decide +kernel) rfl (px_fine_nil 120)
set_option maxRecDepth 20000 in
theorem px_f120_72 : px_fine 120 px_c120_72 := px_fine_add (n := 4) (t := px_c120_80) (by decide +kernel) rfl (px_f120_80)
set_option maxRecDepth 20000 in
theorem px_f120_39 : px_fine 120 px_c120_39 := px_fine_add (n := 15) (t := px_c120_72) (by decide +kernel) rfl (px_f120_72)
set_option maxRecDepth 20000 in
theorem px_f120_14 : px_fine 120 px_c120_14 := px_fine_add (n := 14) (t := px_c120_39) (by decide +kernel) rfl (px_f120_39)
set_option maxRecDepth 20000 in
theorem px_f120_0 : px_fine 120 px_c120_0 := px_fine_add (n := 7) (t := px_c120_14) (by decide +kernel) rfl (px_f120_14)
set_option maxRecDepth 20000 in
theorem px_f121_42 : px_fine 121 px_c121_42 := px_fine_add (n := 1) (t := []) (by decide +kernel) rfl (px_fine_nil 121)
set_option maxRecDepth 20000 in
theorem px_f121_34 : px_fine 121 px_c121_34 := px_fine_add (n := 4) (t := px_c121_42) (by decide +kernel) rfl (px_f121_42)
set_option maxRecDepth 20000 in
theorem px_f121_19 : px_fine 121 px_c121_19 := px_fine_add (n := 7) (t := px_c121_34) (by decide +kernel) rfl (px_f121_34)
set_option maxRecDepth 20000 in
theorem px_f121_12 : px_fine 121 px_c121_12 := px_fine_add (n := 4) (t := px_c121_19) (by decide +kernel) rfl (px_f121_19)
set_option maxRecDepth 20000 in
theorem px_f121_0 : px_fine 121 px_c121_0 := px_fine_add (n := 6) (t := px_c121_12) (by decide +kernel) rfl (px_f121_12)
set_option maxRecDepth 20000 in
theorem px_f122_94 : px_fine 122 px_c122_94 := px_fine_add (n := 2) (t := []) (by decide +kernel) rfl (px_fine_nil 122)
set_option maxRecDepth 20000 in
theorem px_f122_88 : px_fine 122 px_c122_88 := px_fine_add (n := 2) (t := px_c122_94) (by decide +kernel) rfl (px_f122_94)
set_option maxRecDepth 20000 in
theorem px_f122_65 : px_fine 122 px_c122_65 := px_fine_add (n := 10) (t := px_c122_88) (by decide +kernel) rfl (px_f122_88)
set_option maxRecDepth 20000 in
theorem px_f122_64 : px_fine 122 px_c122_64 := px_fine_add (n := 1) (t := px_c122_65) (by decide +kernel) rfl (px_f122_65)
set_option maxRecDepth 20000 in
theorem px_f122_36 : px_fine 122 px_c122_36 := px_fine_add (n := 12) (t := px_c122_64) (by decide +kernel) rfl (px_f122_64)
set_option maxRecDepth 20000 in
theorem px_f122_31 : px_fine 122 px_c122_31 := px_fine_add (n := 4) (t := px_c122_36) (by decide +kernel) rfl (px_f122_36)
set_option maxRecDepth 20000 in
theorem px_f122_25 : px_fine 122 px_c122_25 := px_fine_add (n := 4) (t := px_c122_31) (by decide +kernel) rfl (px_f122_31)
set_option maxRecDepth 20000 in
theorem px_f122_0 : px_fine 122 px_c122_0 := px_fine_add (n := 11) (t := px_c122_25) (by decide +kernel) rfl (px_f122_25)
set_option maxRecDepth 20000 in
theorem px_f123_74 : px_fine 123 px_c123_74 := px_fine_add (n := 6) (t := []) (by decide +kernel) rfl (px_fine_nil 123)
set_option maxRecDepth 20000 in
theorem px_f123_65 : px_fine 123 px_c123_65 := px_fine_add (n := 3) (t := px_c123_74) (by decide +kernel) rfl (px_f123_74)
set_option maxRecDepth 20000 in
theorem px_f123_64 : px_fine 123 px_c123_64 := px_fine_add (n := 1) (t := px_c123_65) (by decide +kernel) rfl (px_f123_65)
set_option maxRecDepth 20000 in
theorem px_f123_33 : px_fine 123 px_c123_33 := px_fine_add (n := 15) (t := px_c123_64) (by decide +kernel) rfl (px_f123_64)
set_option maxRecDepth 20000 in
theorem px_f123_31 : px_fine 123 px_c123_31 := px_fine_add (n := 2) (t := px_c123_33) (by decide +kernel) rfl (px_f123_33)
set_option maxRecDepth 20000 in
theorem px_f123_25 : px_fine 123 px_c123_25 := px_fine_add (n := 4) (t := px_c123_31) (by decide +kernel) rfl (px_f123_31)
set_option maxRecDepth 20000 in
theorem px_f123_0 : px_fine 123 px_c123_0 := px_fine_add (n := 11) (t := px_c123_25) (by decide +kernel) rfl (px_f123_25)
set_option maxRecDepth 20000 in
theorem px_f124_135 : px_fine 124 px_c124_135 := px_fine_add (n := 2) (t := []) (by decide +kernel) rfl (px_fine_nil 124)
set_option maxRecDepth 20000 in
theorem px_f124_129 : px_fine 124 px_c124_129 := px_fine_add (n := 2) (t := px_c124_135) (by decide +kernel) rfl (px_f124_135)
set_option maxRecDepth 20000 in
theorem px_f124_99 : px_fine 124 px_c124_99 := px_fine_add (n := 15) (t := px_c124_129) (by decide +kernel) rfl (px_f124_129)
set_option maxRecDepth 20000 in
theorem px_f124_96 : px_fine 124 px_c124_96 := px_fine_add (n := 2) (t := px_c124_99) (by decide +kernel) rfl (px_f124_99)
set_option maxRecDepth 20000 in
theorem px_f124_82 : px_fine 124 px_c124_82 := px_fine_add (n := 7) (t := px_c124_96) (by decide +kernel) rfl (px_f124_96)
set_option maxRecDepth 20000 in
theorem px_f124_75 : px_fine 124 px_c124_75 := px_fine_add (n := 4) (t := px_c124_82) (by decide +kernel) rfl (px_f124_82)
set_option maxRecDepth 20000 in
theorem px_f124_59 : px_fine 124 px_c124_59 := px_fine_add (n := 6) (t := px_c124_75) (by decide +kernel) rfl (px_f124_75)
set_option maxRecDepth 20000 in
theorem px_f124_52 : px_fine 124 px_c124_52 := px_fine_add (n := 4) (t := px_c124_59) (by decide +kernel) rfl (px_f124_59)
set_option maxRecDepth 20000 in
theorem px_f124_20 : px_fine 124 px_c124_20 := px_fine_add (n := 16) (t := px_c124_52) (by decide +kernel) rfl (px_f124_52)
set_option maxRecDepth 20000 in
theorem px_f124_14 : px_fine 124 px_c124_14 := px_fine_add (n := 4) (t := px_c124_20) (by decide +kernel) rfl (px_f124_20)
set_option maxRecDepth 20000 in
theorem px_f124_0 : px_fine 124 px_c124_0 := px_fine_add (n := 6) (t := px_c124_14) (by decide +kernel) rfl (px_f124_14)
set_option maxRecDepth 20000 in
theorem px_f125_107 : px_fine 125 px_c125_107 := px_fine_add (n := 2) (t := []) (by decide +kernel) rfl (px_fine_nil 125)
set_option maxRecDepth 20000 in
theorem px_f125_98 : px_fine 125 px_c125_98 := px_fine_add (n := 5) (t := px_c125_107) (by decide +kernel) rfl (px_f125_107)
set_option maxRecDepth 20000 in
theorem px_f125_89 : px_fine 125 px_c125_89 := px_fine_add (n := 5) (t := px_c125_98) (by decide +kernel) rfl (px_f125_98)
set_option maxRecDepth 20000 in
theorem px_f125_80 : px_fine 125 px_c125_80 := px_fine_add (n := 5) (t := px_c125_89) (by decide +kernel) rfl (px_f125_89)
set_option maxRecDepth 20000 in
theorem px_f125_28 : px_fine 125 px_c125_28 := px_fine_add (n := 16) (t := px_c125_80) (by decide +kernel) rfl (px_f125_80)
set_option maxRecDepth 20000 in
theorem px_f125_26 : px_fine 125 px_c125_26 := px_fine_add (n := 2) (t := px_c125_28) (by decide +kernel) rfl (px_f125_28)
set_option maxRecDepth 20000 in
theorem px_f125_0 : px_fine 125 px_c125_0 := px_fine_add (n := 12) (t := px_c125_26) (by decide +kernel) rfl (px_f125_26)
set_option maxRecDepth 20000 in
theorem px_f126_0 : px_fine 126 px_c126_0 := px_fine_add (n := 5) (t := []) (by decide +kernel) rfl (px_fine_nil 126)
set_option maxRecDepth 20000 in
theorem px_f127_0 : px_fine 127 px_c127_0 := px_fine_add (n := 13) (t := []) (by decide +kernel) rfl (px_fine_nil 127)
set_option maxRecDepth 20000 in
theorem px_f128_14 : px_fine 128 px_c128_14 := px_fine_add (n := 10) (t := []) (by decide +kernel) rfl (px_fine_nil 128)
set_option maxRecDepth 20000 in
theorem px_f128_0 : px_fine 128 px_c128_0 := px_fine_add (n := 7) (t := px_c128_14) (by decide +kernel) rfl (px_f128_14)
set_option maxRecDepth 20000 in
theorem px_f129_198 : px_fine 129 px_c129_198 := px_fine_add (n := 1) (t := []) (by decide +kernel) rfl (px_fine_nil 129)
set_option maxRecDepth 20000 in
theorem px_f129_197 : px_fine 129 px_c129_197 := px_fine_add (n := 1) (t := px_c129_198) (by decide +kernel) rfl (px_f129_198)
set_option maxRecDepth 20000 in
theorem px_f129_173 : px_fine 129 px_c129_173 := px_fine_add (n := 13) (t := px_c129_197) (by decide +kernel) rfl (px_f129_197)
set_option maxRecDepth 20000 in
theorem px_f129_165 : px_fine 129 px_c129_165 := px_fine_add (n := 4) (t := px_c129_173) (by decide +kernel) rfl (px_f129_173)
set_option maxRecDepth 20000 in
theorem px_f129_154 : px_fine 129 px_c129_154 := px_fine_add (n := 5) (t := px_c129_165) (by decide +kernel) rfl (px_f129_165)
set_option maxRecDepth 20000 in
theorem px_f129_143 : px_fine 129 px_c129_143 := px_fine_add (n := 5) (t := px_c129_154) (by decide +kernel) rfl (px_f129_154)
set_option maxRecDepth 20000 in
theorem px_f129_132 : px_fine 129 px_c129_132 := px_fine_add (n := 5) (t := px_c129_143) (by decide +kernel) rfl (px_f129_143)
set_option maxRecDepth 20000 in
theorem px_f129_121 : px_fine 129 px_c129_121 := px_fine_add (n := 5) (t := px_c129_132) (by decide +kernel) rfl (px_f129_132)
set_option maxRecDepth 20000 in
theorem px_f129_110 : px_fine 129 px_c129_110 := px_fine_add (n := 5) (t := px_c129_121) (by decide +kernel) rfl (px_f129_121)
set_option maxRecDepth 20000 in
theorem px_f129_89 : px_fine 129 px_c129_89 := px_fine_add (n := 11) (t := px_c129_110) (by decide +kernel) rfl (px_f129_110)
set_option maxRecDepth 20000 in
theorem px_f129_78 : px_fine 129 px_c129_78 := px_fine_add (n := 5) (t := px_c129_89) (by decide +kernel) rfl (px_f129_89)
set_option maxRecDepth 20000 in
theorem px_f129_67 : px_fine 129 px_c129_67 := px_fine_add (n := 5) (t := px_c129_78) (by decide +kernel) rfl (px_f129_78)
set_option maxRecDepth 20000 in
theorem px_f129_56 : px_fine 129 px_c129_56 := px_fine_add (n := 5) (t := px_c129_67) (by decide +kernel) rfl (px_f129_67)
set_option maxRecDepth 20000 in
theorem px_f129_0 : px_fine 129 px_c129_0 := px_fine_add (n := 2) (t := px_c129_56) (by decide +kernel) rfl (px_f129_56)
set_option maxRecDepth 20000 in
theorem px_f130_22 : px_fine 130 px_c130_22 := px_fine_add (n := 2) (t := []) (by decide +kernel) rfl (px_fine_nil 130)
set_option maxRecDepth 20000 in
theorem px_f130_0 : px_fine 130 px_c130_0 := px_fine_add (n := 15) (t := px_c130_22) (by decide +kernel) rfl (px_f130_22)
set_option maxRecDepth 20000 in
theorem px_f131_0 : px_fine 131 px_c131_0 := px_fine_add (n := 6) (t := []) (by decide +kernel) rfl (px_fine_nil 131)
set_option maxRecDepth 20000 in
theorem px_f132_42 : px_fine 132 px_c132_42 := px_fine_add (n := 1) (t := []) (by decide +kernel) rfl (px_fine_nil 132)
set_option maxRecDepth 20000 in
theorem px_f132_40 : px_fine 132 px_c132_40 := px_fine_add (n := 1) (t := px_c132_42) (by decide +kernel) rfl (px_f132_42)
set_option maxRecDepth 20000 in
theorem px_f132_24 : px_fine 132 px_c132_24 := px_fine_add (n := 8) (t := px_c132_40) (by decide +kernel) rfl (px_f132_40)
set_option maxRecDepth 20000 in
theorem px_f132_9 : px_fine 132 px_c132_9 := px_fine_add (n := 8) (t := px_c132_24) (by decide +kernel) rfl (px_f132_24)
set_option maxRecDepth 20000 in
theorem px_f132_0 : px_fine 132 px_c132_0 := px_fine_add (n := 5) (t := px_c132_9) (by decide +kernel) rfl (px_f132_9)
set_option maxRecDepth 20000 in
theorem px_f133_42 : px_fine 133 px_c133_42 := px_fine_add (n := 1) (t := []) (by decide +kernel) rfl (px_fine_nil 133)
set_option maxRecDepth 20000 in
theorem px_f133_40 : px_fine 133 px_c133_40 := px_fine_add (n := 1) (t := px_c133_42) (by decide +kernel) rfl (px_f133_42)
set_option maxRecDepth 20000 in
theorem px_f133_24 : px_fine 133 px_c133_24 := px_fine_add (n := 8) (t := px_c133_40) (by decide +kernel) rfl (px_f133_40)
set_option maxRecDepth 20000 in
theorem px_f133_9 : px_fine 133 px_c133_9 := px_fine_add (n := 8) (t := px_c133_24) (by decide +kernel) rfl (px_f133_24)
set_option maxRecDepth 20000 in
theorem px_f133_0 : px_fine 133 px_c133_0 := px_fine_add (n := 5) (t := px_c133_9) (by decide +kernel) rfl (px_f133_9)
set_option maxRecDepth 20000 in
theorem px_f134_31 : px_fine 134 px_c134_31 := px_fine_add (n := 1) (t := []) (by decide +kernel) rfl (px_fine_nil 134)
set_option maxRecDepth 20000 in
theorem px_f134_29 : px_fine 134 px_c134_29 := px_fine_add (n := 1) (t := px_c134_31) (by decide +kernel) rfl (px_f134_31)
set_option maxRecDepth 20000 in
theorem px_f134_21 : px_fine 134 px_c134_21 := px_fine_add (n := 4) (t := px_c134_29) (by decide +kernel) rfl (px_f134_29)
set_option maxRecDepth 20000 in
theorem px_f134_6 : px_fine 134 px_c134_6 := px_fine_add (n := 8) (t := px_c134_21) (by decide +kernel) rfl (px_f134_21)
set_option maxRecDepth 20000 in
theorem px_f134_0 : px_fine 134 px_c134_0 := px_fine_add (n := 4) (t := px_c134_6) (by decide +kernel) rfl (px_f134_6)
set_option maxRecDepth 20000 in
theorem px_f135_78 : px_fine 135 px_c135_78 := px_fine_add (n := 1) (t := []) (by decide +kernel) rfl (px_fine_nil 135)
set_option maxRecDepth 20000 in
theorem px_f135_76 : px_fine 135 px_c135_76 := px_fine_add (n := 1) (t := px_c135_78) (by decide +kernel) rfl (px_f135_78)
set_option maxRecDepth 20000 in
theorem px_f135_34 : px_fine 135 px_c135_34 := px_fine_add (n := 21) (t := px_c135_76) (by decide +kernel) rfl (px_f135_76)
set_option maxRecDepth 20000 in
theorem px_f135_20 : px_fine 135 px_c135_20 := px_fine_add (n := 7) (t := px_c135_34) (by decide +kernel) rfl (px_f135_34)
set_option maxRecDepth 20000 in
theorem px_f135_0 : px_fine 135 px_c135_0 := px_fine_add (n := 10) (t := px_c135_20) (by decide +kernel) rfl (px_f135_20)
set_option maxRecDepth 20000 in
theorem px_f136_0 : px_fine 136 px_c136_0 := px_fine_add (n := 21) (t := []) (by decide +kernel) rfl (px_fine_nil 136)
set_option maxRecDepth 20000 in
theorem px_f137_0 : px_fine 137 px_c137_0 := px_fine_add (n := 25) (t := []) (by decide +kernel) rfl (px_fine_nil 137)
set_option maxRecDepth 20000 in
theorem px_f138_15 : px_fine 138 px_c138_15 := px_fine_add (n := 1) (t := []) (by decide +kernel) rfl (px_fine_nil 138)
set_option maxRecDepth 20000 in
theorem px_f138_14 : px_fine 138 px_c138_14 := px_fine_add (n := 1) (t := px_c138_15) (by decide +kernel) rfl (px_f138_15)
set_option maxRecDepth 20000 in
theorem px_f138_0 : px_fine 138 px_c138_0 := px_fine_add (n := 7) (t := px_c138_14) (by decide +kernel) rfl (px_f138_14)
set_option maxRecDepth 20000 in
theorem px_f139_15 : px_fine 139 px_c139_15 := px_fine_add (n := 1) (t := []) (by decide +kernel) rfl (px_fine_nil 139)
set_option maxRecDepth 20000 in
theorem px_f139_14 : px_fine 139 px_c139_14 := px_fine_add (n := 1) (t := px_c139_15) (by decide +kernel) rfl (px_f139_15)
set_option maxRecDepth 20000 in
theorem px_f139_0 : px_fine 139 px_c139_0 := px_fine_add (n := 7) (t := px_c139_14) (by decide +kernel) rfl (px_f139_14)
set_option maxRecDepth 20000 in
theorem px_f140_15 : px_fine 140 px_c140_15 := px_fine_add (n := 1) (t := []) (by decide +kernel) rfl (px_fine_nil 140)
set_option maxRecDepth 20000 in
theorem px_f140_14 : px_fine 140 px_c140_14 := px_fine_add (n := 1) (t := px_c140_15) (by decide +kernel) rfl (px_f140_15)
set_option maxRecDepth 20000 in
theorem px_f140_0 : px_fine 140 px_c140_0 := px_fine_add (n := 7) (t := px_c140_14) (by decide +kernel) rfl (px_f140_14)
set_option maxRecDepth 20000 in
theorem px_f141_15 : px_fine 141 px_c141_15 := px_fine_add (n := 1) (t := []) (by decide +kernel) rfl (px_fine_nil 141)
set_option maxRecDepth 20000 in
theorem px_f141_14 : px_fine 141 px_c141_14 := px_fine_add (n := 1) (t := px_c141_15) (by decide +kernel) rfl (px_f141_15)
set_option maxRecDepth 20000 in
theorem px_f141_0 : px_fine 141 px_c141_0 := px_fine_add (n := 7) (t := px_c141_14) (by decide +kernel) rfl (px_f141_14)
set_option maxRecDepth 20000 in
theorem px_f142_13 : px_fine 142 px_c142_13 := px_fine_add (n := 1) (t := []) (by decide +kernel) rfl (px_fine_nil 142)
set_option maxRecDepth 20000 in
theorem px_f142_12 : px_fine 142 px_c142_12 := px_fine_add (n := 1) (t := px_c142_13) (by decide +kernel) rfl (px_f142_13)
set_option maxRecDepth 20000 in
theorem px_f142_0 : px_fine 142 px_c142_0 := px_fine_add (n := 8) (t := px_c142_12) (by decide +kernel) rfl (px_f142_12)
set_option maxRecDepth 20000 in
theorem px_f143_0 : px_fine 143 px_c143_0 := px_fine_add (n := 4) (t := []) (by decide +kernel) rfl (px_fine_nil 143)
set_option maxRecDepth 20000 in
theorem px_f144_0 : px_fine 144 px_c144_0 := px_fine_add (n := 4) (t := []) (by decide +kernel) rfl (px_fine_nil 144)
set_option maxRecDepth 20000 in
theorem px_f145_51 : px_fine 145 px_c145_51 := px_fine_add (n := 1) (t := []) (by decide +kernel) rfl (px_fine_nil 145)
set_option maxRecDepth 20000 in
theorem px_f145_50 : px_fine 145 px_c145_50 := px_fine_add (n := 1) (t := px_c145_51) (by decide +kernel) rfl (px_f145_51)
set_option maxRecDepth 20000 in
theorem px_f145_28 : px_fine 145 px_c145_28 := px_fine_add (n := 12) (t := px_c145_50) (by decide +kernel) rfl (px_f145_50)
set_option maxRecDepth 20000 in
theorem px_f145_26 : px_fine 145 px_c145_26 := px_fine_add (n := 2) (t := px_c145_28) (by decide +kernel) rfl (px_f145_28)
set_option maxRecDepth 20000 in
theorem px_f145_0 : px_fine 145 px_c145_0 := px_fine_add (n := 16) (t := px_c145_26) (by decide +kernel) rfl (px_f145_26)
set_option maxRecDepth 20000 in
theorem px_f146_77 : px_fine 146 px_c146_77 := px_fine_add (n := 2) (t := []) (by decide +kernel) rfl (px_fine_nil 146)
set_option maxRecDepth 20000 in
theorem px_f146_76 : px_fine 146 px_c146_76 := px_fine_add (n := 1) (t := px_c146_77) (by decide +kernel) rfl (px_f146_77)
set_option maxRecDepth 20000 in
theorem px_f146_75 : px_fine 146 px_c146_75 := px_fine_add (n := 1) (t := px_c146_76) (by decide +kernel) rfl (px_f146_76)
set_option maxRecDepth 20000 in
theorem px_f146_60 : px_fine 146 px_c146_60 := px_fine_add (n := 7) (t := px_c146_75) (by decide +kernel) rfl (px_f146_75)
set_option maxRecDepth 20000 in
theorem px_f146_55 : px_fine 146 px_c146_55 := px_fine_add (n := 3) (t := px_c146_60) (by decide +kernel) rfl (px_f146_60)
set_option maxRecDepth 20000 in
theorem px_f146_54 : px_fine 146 px_c146_54 := px_fine_add (n := 1) (t := px_c146_55) (by decide +kernel) rfl (px_f146_55)
set_option maxRecDepth 20000 in
theorem px_f146_53 : px_fine 146 px_c146_53 := px_fine_add (n := 1) (t := px_c146_54) (by decide +kernel) rfl (px_f146_54)
set_option maxRecDepth 20000 in
theorem px_f146_49 : px_fine 146 px_c146_49 := px_fine_add (n := 2) (t := px_c146_53) (by decide +kernel) rfl (px_f146_53)
set_option maxRecDepth 20000 in
theorem px_f146_40 : px_fine 146 px_c146_40 := px_fine_add (n := 5) (t := px_c146_49) (by decide +kernel) rfl (px_f146_49)
set_option maxRecDepth 20000 in
theorem px_f146_0 : px_fine 146 px_c146_0 := px_fine_add (n := 2) (t := px_c146_40) (by decide +kernel) rfl (px_f146_40)
set_option maxRecDepth 20000 in
theorem px_f147_96 : px_fine 147 px_c147_96 := px_fine_add (n := 2) (t := []) (by decide +kernel) rfl (px_fine_nil 147)
set_option maxRecDepth 20000 in
theorem px_f147_92 : px_fine 147 px_c147_92 := px_fine_add (n := 2) (t := px_c147_96) (by decide +kernel) rfl (px_f147_96)
set_option maxRecDepth 20000 in
theorem px_f147_88 : px_fine 147 px_c147_88 := px_fine_add (n := 2) (t := px_c147_92) (by decide +kernel) rfl (px_f147_92)
set_option maxRecDepth 20000 in
theorem px_f147_84 : px_fine 147 px_c147_84 := px_fine_add (n := 2) (t := px_c147_88) (by decide +kernel) rfl (px_f147_88)
set_option maxRecDepth 20000 in
theorem px_f147_80 : px_fine 147 px_c147_80 := px_fine_add (n := 2) (t := px_c147_84) (by decide +kernel) rfl (px_f147_84)
set_option maxRecDepth 20000 in
theorem px_f147_76 : px_fine 147 px_c147_76 := px_fine_add (n := 2) (t := px_c147_80) (by decide +kernel) rfl (px_f147_80)
set_option maxRecDepth 20000 in
theorem px_f147_72 : px_fine 147 px_c147_72 := px_fine_add (n := 2) (t := px_c147_76) (by decide +kernel) rfl (px_f147_76)
set_option maxRecDepth 20000 in
theorem px_f147_68 : px_fine 147 px_c147_68 := px_fine_add (n := 2) (t := px_c147_72) (by decide +kernel) rfl (px_f147_72)
set_option maxRecDepth 20000 in
theorem px_f147_64 : px_fine 147 px_c147_64 := px_fine_add (n := 2) (t := px_c147_68) (by decide +kernel) rfl (px_f147_68)
set_option maxRecDepth 20000 in
theorem px_f147_60 : px_fine 147 px_c147_60 := px_fine_add (n := 2) (t := px_c147_64) (by decide +kernel) rfl (px_f147_64)
set_option maxRecDepth 20000 in
theorem px_f147_56 : px_fine 147 px_c147_56 := px_fine_add (n := 2) (t := px_c147_60) (by decide +kernel) rfl (px_f147_60)
set_option maxRecDepth 20000 in
theorem px_f147_0 : px_fine 147 px_c147_0 := px_fine_add (n := 2) (t := px_c147_56) (by decide +kernel) rfl (px_f147_56)
set_option maxRecDepth 20000 in
theorem px_f148_642 : px_fine 148 px_c148_642 := px_fine_add (n := 26) (t := []) (by decide +kernel) rfl (px_fine_nil 148)
set_option maxRecDepth 20000 in
theorem px_f148_567 : px_fine 148 px_c148_567 := px_fine_add (n := 50) (t := px_c148_642) (by decide +kernel) rfl (px_f148_642)
set_option maxRecDepth 20000 in
theorem px_f148_494 : px_fine 148 px_c148_494 := px_fine_add (n := 50) (t := px_c148_567) (by decide +kernel) rfl (px_f148_567)
set_option maxRecDepth 20000 in
theorem px_f148_421 : px_fine 148 px_c148_421 := px_fine_add (n := 50) (t := px_c148_494) (by decide +kernel) rfl (px_f148_494)
set_option maxRecDepth 20000 in
theorem px_f148_348 : px_fine 148 px_c148_348 := px_fine_add (n := 50) (t := px_c148_421) (by decide +kernel) rfl (px_f148_421)
set_option maxRecDepth 20000 in
theorem px_f148_275 : px_fine 148 px_c148_275 := px_fine_add (n := 50) (t := px_c148_348) (by decide +kernel) rfl (px_f148_348)
set_option maxRecDepth 20000 in
theorem px_f148_198 : px_fine 148 px_c148_198 := px_fine_add (n := 50) (t := px_c148_275) (by decide +kernel) rfl (px_f148_275)
set_option maxRecDepth 20000 in
theorem px_f148_98 : px_fine 148 px_c148_98 := px_fine_add (n := 50) (t := px_c148_198) (by decide +kernel) rfl (px_f148_198)
set_option maxRecDepth 20000 in
theorem px_f148_0 : px_fine 148 px_c148_0 := px_fine_add (n := 50) (t := px_c148_98) (by decide +kernel) rfl (px_f148_98)
set_option maxRecDepth 20000 in
theorem px_f149_0 : px_fine 149 px_c149_0 := px_fine_add (n := 11) (t := []) (by decide +kernel) rfl (px_fine_nil 149)
set_option maxRecDepth 20000 in
theorem px_f150_0 : px_fine 150 px_c150_0 := px_fine_add (n := 13) (t := []) (by decide +kernel) rfl (px_fine_nil 150)
set_option maxRecDepth 20000 in
theorem px_f151_15 : px_fine 151 px_c151_15 := px_fine_add (n := 1) (t := []) (by decide +kernel) rfl (px_fine_nil 151)
set_option maxRecDepth 20000 in
theorem px_f151_14 : px_fine 151 px_c151_14 := px_fine_add (n := 1) (t := px_c151_15) (by decide +kernel) rfl (px_f151_15)
set_option maxRecDepth 20000 in
theorem px_f151_0 : px_fine 151 px_c151_0 := px_fine_add (n := 7) (t := px_c151_14) (by decide +kernel) rfl (px_f151_14)
set_option maxRecDepth 20000 in
theorem px_f152_15 : px_fine 152 px_c152_15 := px_fine_add (n := 1) (t := []) (by decide +kernel) rfl (px_fine_nil 152)
set_option maxRecDepth 20000 in
theorem px_f152_14 : px_fine 152 px_c152_14 := px_fine_add (n := 1) (t := px_c152_15) (by decide +kernel) rfl (px_f152_15)
set_option maxRecDepth 20000 in
theorem px_f152_0 : px_fine 152 px_c152_0 := px_fine_add (n := 7) (t := px_c152_14) (by decide +kernel) rfl (px_f152_14)
set_option maxRecDepth 20000 in
theorem px_f153_17 : px_fine 153 px_c153_17 := px_fine_add (n := 1) (t := []) (by decide +kernel) rfl (px_fine_nil 153)
set_option maxRecDepth 20000 in
theorem px_f153_16 : px_fine 153 px_c153_16 := px_fine_add (n := 1) (t := px_c153_17) (by decide +kernel) rfl (px_f153_17)
set_option maxRecDepth 20000 in
theorem px_f153_0 : px_fine 153 px_c153_0 := px_fine_add (n := 8) (t := px_c153_16) (by decide +kernel) rfl (px_f153_16)
set_option maxRecDepth 20000 in
theorem px_f154_17 : px_fine 154 px_c154_17 := px_fine_add (n := 1) (t := []) (by decide +kernel) rfl (px_fine_nil 154)
set_option maxRecDepth 20000 in
theorem px_f154_16 : px_fine 154 px_c154_16 := px_fine_add (n := 1) (t := px_c154_17) (by decide +kernel) rfl (px_f154_17)
set_option maxRecDepth 20000 in
theorem px_f154_0 : px_fine 154 px_c154_0 := px_fine_add (n := 8) (t := px_c154_16) (by decide +kernel) rfl (px_f154_16)
set_option maxRecDepth 20000 in
theorem px_f155_19 : px_fine 155 px_c155_19 := px_fine_add (n := 1) (t := []) (by decide +kernel) rfl (px_fine_nil 155)
set_option maxRecDepth 20000 in
theorem px_f155_18 : px_fine 155 px_c155_18 := px_fine_add (n := 1) (t := px_c155_19) (by decide +kernel) rfl (px_f155_19)
set_option maxRecDepth 20000 in
theorem px_f155_0 : px_fine 155 px_c155_0 := px_fine_add (n := 10) (t := px_c155_18) (by decide +kernel) rfl (px_f155_18)
set_option maxRecDepth 20000 in
theorem px_f156_15 : px_fine 156 px_c156_15 := px_fine_add (n := 1) (t := []) (by decide +kernel) rfl (px_fine_nil 156)
set_option maxRecDepth 20000 in
theorem px_f156_14 : px_fine 156 px_c156_14 := px_fine_add (n := 1) (t := px_c156_15) (by decide +kernel) rfl (px_f156_15)
set_option maxRecDepth 20000 in
theorem px_f156_0 : px_fine 156 px_c156_0 := px_fine_add (n := 7) (t := px_c156_14) (by decide +kernel) rfl (px_f156_14)
set_option maxRecDepth 20000 in
theorem px_f157_104 : px_fine 157 px_c157_104 := px_fine_add (n := 2) (t := []) (by decide +kernel) rfl (px_fine_nil 157)
set_option maxRecDepth 20000 in
theorem px_f157_78 : px_fine 157 px_c157_78 := px_fine_add (n := 14) (t := px_c157_104) (by decide +kernel) rfl (px_f157_104)
set_option maxRecDepth 20000 in
theorem px_f157_54 : px_fine 157 px_c157_54 := px_fine_add (n := 17) (t := px_c157_78) (by decide +kernel) rfl (px_f157_78)
set_option maxRecDepth 20000 in
theorem px_f157_41 : px_fine 157 px_c157_41 := px_fine_add (n := 7) (t := px_c157_54) (by decide +kernel) rfl (px_f157_54)
set_option maxRecDepth 20000 in
theorem px_f157_34 : px_fine 157 px_c157_34 := px_fine_add (n := 4) (t := px_c157_41) (by decide +kernel) rfl (px_f157_41)
set_option maxRecDepth 20000 in
theorem px_f157_25 : px_fine 157 px_c157_25 := px_fine_add (n := 5) (t := px_c157_34) (by decide +kernel) rfl (px_f157_34)
set_option maxRecDepth 20000 in
theorem px_f157_14 : px_fine 157 px_c157_14 := px_fine_add (n := 6) (t := px_c157_25) (by decide +kernel) rfl (px_f157_25)
set_option maxRecDepth 20000 in
theorem px_f157_0 : px_fine 157 px_c157_0 := px_fine_add (n := 8) (t := px_c157_14) (by decide +kernel) rfl (px_f157_14)
set_option maxRecDepth 20000 in
theorem px_f158_128 : px_fine 158 px_c158_128 := px_fine_add (n := 3) (t := []) (by decide +kernel) rfl (px_fine_nil 158)
set_option maxRecDepth 20000 in
theorem px_f158_127 : px_fine 158 px_c158_127 := px_fine_add (n := 1) (t := px_c158_128) (by decide +kernel) rfl (px_f158_128)
set_option maxRecDepth 20000 in
theorem px_f158_111 : px_fine 158 px_c158_111 := px_fine_add (n := 10) (t := px_c158_127) (by decide +kernel) rfl (px_f158_127)
set_option maxRecDepth 20000 in
theorem px_f158_94 : px_fine 158 px_c158_94 := px_fine_add (n := 11) (t := px_c158_111) (by decide +kernel) rfl (px_f158_111)
set_option maxRecDepth 20000 in
theorem px_f158_68 : px_fine 158 px_c158_68 := px_fine_add (n := 17) (t := px_c158_94) (by decide +kernel) rfl (px_f158_94)
set_option maxRecDepth 20000 in
theorem px_f158_61 : px_fine 158 px_c158_61 := px_fine_add (n := 4) (t := px_c158_68) (by decide +kernel) rfl (px_f158_68)
set_option maxRecDepth 20000 in
theorem px_f158_47 : px_fine 158 px_c158_47 := px_fine_add (n := 8) (t := px_c158_61) (by decide +kernel) rfl (px_f158_61)
set_option maxRecDepth 20000 in
theorem px_f158_31 : px_fine 158 px_c158_31 := px_fine_add (n := 9) (t := px_c158_47) (by decide +kernel) rfl (px_f158_47)
set_option maxRecDepth 20000 in
theorem px_f158_14 : px_fine 158 px_c158_14 := px_fine_add (n := 10) (t := px_c158_31) (by decide +kernel) rfl (px_f158_31)
set_option maxRecDepth 20000 in
theorem px_f158_0 : px_fine 158 px_c158_0 := px_fine_add (n := 8) (t := px_c158_14) (by decide +kernel) rfl (px_f158_14)
set_option maxRecDepth 20000 in
theorem px_f159_239 : px_fine 159 px_c159_239 := px_fine_add (n := 2) (t := []) (by decide +kernel) rfl (px_fine_nil 159)
set_option maxRecDepth 20000 in
theorem px_f159_204 : px_fine 159 px_c159_204 := px_fine_add (n := 19) (t := px_c159_239) (by decide +kernel) rfl (px_f159_239)
set_option maxRecDepth 20000 in
theorem px_f159_201 : px_fine 159 px_c159_201 := px_fine_add (n := 2) (t := px_c159_204) (by decide +kernel) rfl (px_f159_204)
set_option maxRecDepth 20000 in
theorem px_f159_167 : px_fine 159 px_c159_167 := px_fine_add (n := 19) (t := px_c159_201) (by decide +kernel) rfl (px_f159_201)
set_option maxRecDepth 20000 in
theorem px_f159_164 : px_fine 159 px_c159_164 := px_fine_add (n := 2) (t := px_c159_167) (by decide +kernel) rfl (px_f159_167)
set_option maxRecDepth 20000 in
theorem px_f159_157 : px_fine 159 px_c159_157 := px_fine_add (n := 4) (t := px_c159_164) (by decide +kernel) rfl (px_f159_164)
set_option maxRecDepth 20000 in
theorem px_f159_121 : px_fine 159 px_c159_121 := px_fine_add (n := 20) (t := px_c159_157) (by decide +kernel) rfl (px_f159_157)
set_option maxRecDepth 20000 in
theorem px_f159_109 : px_fine 159 px_c159_109 := px_fine_add (n := 6) (t := px_c159_121) (by decide +kernel) rfl (px_f159_121)
set_option maxRecDepth 20000 in
theorem px_f159_102 : px_fine 159 px_c159_102 := px_fine_add (n := 4) (t := px_c159_109) (by decide +kernel) rfl (px_f159_109)
set_option maxRecDepth 20000 in
theorem px_f159_84 : px_fine 159 px_c159_84 := px_fine_add (n := 10) (t := px_c159_102) (by decide +kernel) rfl (px_f159_102)
set_option maxRecDepth 20000 in
theorem px_f159_77 : px_fine 159 px_c159_77 := px_fine_add (n := 4) (t := px_c159_84) (by decide +kernel) rfl (px_f159_84)
set_option maxRecDepth 20000 in
theorem px_f159_22 : px_fine 159 px_c159_22 := px_fine_add (n := 33) (t := px_c159_77) (by decide +kernel) rfl (px_f159_77)
set_option maxRecDepth 20000 in
theorem px_f159_16 : px_fine 159 px_c159_16 := px_fine_add (n := 4) (t := px_c159_22) (by decide +kernel) rfl (px_f159_22)
set_option maxRecDepth 20000 in
theorem px_f159_0 : px_fine 159 px_c159_0 := px_fine_add (n := 8) (t := px_c159_16) (by decide +kernel) rfl (px_f159_16)
set_option maxRecDepth 20000 in
theorem px_f160_47 : px_fine 160 px_c160_47 := px_fine_add (n := 1) (t := []) (by decide +kernel) rfl (px_fine_nil 160)
set_option maxRecDepth 20000 in
theorem px_f160_46 : px_fine 160 px_c160_46 := px_fine_add (n := 1) (t := px_c160_47) (by decide +kernel) rfl (px_f160_47)
set_option maxRecDepth 20000 in
theorem px_f160_0 : px_fine 160 px_c160_0 := px_fine_add (n := 27) (t := px_c160_46) (by decide +kernel) rfl (px_f160_46)
set_option maxRecDepth 20000 in
theorem px_f161_171 : px_fine 161 px_c161_171 := px_fine_add (n := 3) (t := []) (by decide +kernel) rfl (px_fine_nil 161)
set_option maxRecDepth 20000 in
theorem px_f161_170 : px_fine 161 px_c161_170 := px_fine_add (n := 1) (t := px_c161_171) (by decide +kernel) rfl (px_f161_171)
set_option maxRecDepth 20000 in
theorem px_f161_152 : px_fine 161 px_c161_152 := px_fine_add (n := 10) (t := px_c161_170) (by decide +kernel) rfl (px_f161_170)
set_option maxRecDepth 20000 in
theorem px_f161_151 : px_fine 161 px_c161_151 := px_fine_add (n := 1) (t := px_c161_152) (by decide +kernel) rfl (px_f161_152)
set_option maxRecDepth 20000 in
theorem px_f161_147 : px_fine 161 px_c161_147 := px_fine_add (n := 2) (t := px_c161_151) (by decide +kernel) rfl (px_f161_151)
set_option maxRecDepth 20000 in
theorem px_f161_107 : px_fine 161 px_c161_107 := px_fine_add (n := 25) (t := px_c161_147) (by decide +kernel) rfl (px_f161_147)
set_option maxRecDepth 20000 in
theorem px_f161_93 : px_fine 161 px_c161_93 := px_fine_add (n := 7) (t := px_c161_107) (by decide +kernel) rfl (px_f161_107)
set_option maxRecDepth 20000 in
theorem px_f161_92 : px_fine 161 px_c161_92 := px_fine_add (n := 1) (t := px_c161_93) (by decide +kernel) rfl (px_f161_93)
set_option maxRecDepth 20000 in
theorem px_f161_88 : px_fine 161 px_c161_88 := px_fine_add (n := 2) (t := px_c161_92) (by decide +kernel) rfl (px_f161_92)
set_option maxRecDepth 20000 in
theorem px_f161_71 : px_fine 161 px_c161_71 := px_fine_add (n := 8) (t := px_c161_88) (by decide +kernel) rfl (px_f161_88)
set_option maxRecDepth 20000 in
theorem px_f161_58 : px_fine 161 px_c161_58 := px_fine_add (n := 7) (t := px_c161_71) (by decide +kernel) rfl (px_f161_71)
set_option maxRecDepth 20000 in
theorem px_f161_49 : px_fine 161 px_c161_49 := px_fine_add (n := 5) (t := px_c161_58) (by decide +kernel) rfl (px_f161_58)
set_option maxRecDepth 20000 in
theorem px_f161_39 : px_fine 161 px_c161_39 := px_fine_add (n := 6) (t := px_c161_49) (by decide +kernel) rfl (px_f161_49)
set_option maxRecDepth 20000 in
theorem px_f161_25 : px_fine 161 px_c161_25 := px_fine_add (n := 10) (t := px_c161_39) (by decide +kernel) rfl (px_f161_39)
set_option maxRecDepth 20000 in
theorem px_f161_19 : px_fine 161 px_c161_19 := px_fine_add (n := 4) (t := px_c161_25) (by decide +kernel) rfl (px_f161_25)
set_option maxRecDepth 20000 in
theorem px_f161_0 : px_fine 161 px_c161_0 := px_fine_add (n := 10) (t := px_c161_19) (by decide +kernel) rfl (px_f161_19)
set_option maxRecDepth 20000 in
theorem px_f162_47 : px_fine 162 px_c162_47 := px_fine_add (n := 1) (t := []) (by decide +kernel) rfl (px_fine_nil 162)
set_option maxRecDepth 20000 in
theorem px_f162_41 : px_fine 162 px_c162_41 := px_fine_add (n := 4) (t := px_c162_47) (by decide +kernel) rfl (px_f162_47)
set_option maxRecDepth 20000 in
theorem px_f162_19 : px_fine 162 px_c162_19 := px_fine_add (n := 13) (t := px_c162_41) (by decide +kernel) rfl (px_f162_41)
set_option maxRecDepth 20000 in
theorem px_f162_17 : px_fine 162 px_c162_17 := px_fine_add (n := 2) (t := px_c162_19) (by decide +kernel) rfl (px_f162_19)
set_option maxRecDepth 20000 in
theorem px_f162_0 : px_fine 162 px_c162_0 := px_fine_add (n := 9) (t := px_c162_17) (by decide +kernel) rfl (px_f162_17)
set_option maxRecDepth 20000 in
theorem px_f163_29 : px_fine 163 px_c163_29 := px_fine_add (n := 1) (t := []) (by decide +kernel) rfl (px_fine_nil 163)
set_option maxRecDepth 20000 in
theorem px_f163_28 : px_fine 163 px_c163_28 := px_fine_add (n := 1) (t := px_c163_29) (by decide +kernel) rfl (px_f163_29)
set_option maxRecDepth 20000 in
theorem px_f163_24 : px_fine 163 px_c163_24 := px_fine_add (n := 2) (t := px_c163_28) (by decide +kernel) rfl (px_f163_28)
set_option maxRecDepth 20000 in
theorem px_f163_0 : px_fine 163 px_c163_0 := px_fine_add (n := 14) (t := px_c163_24) (by decide +kernel) rfl (px_f163_24)
set_option maxRecDepth 20000 in
theorem px_f164_138 : px_fine 164 px_c164_138 := px_fine_add (n := 1) (t := []) (by decide +kernel) rfl (px_fine_nil 164)
set_option maxRecDepth 20000 in
theorem px_f164_132 : px_fine 164 px_c164_132 := px_fine_add (n := 4) (t := px_c164_138) (by decide +kernel) rfl (px_f164_138)
set_option maxRecDepth 20000 in
theorem px_f164_118 : px_fine 164 px_c164_118 := px_fine_add (n := 8) (t := px_c164_132) (by decide +kernel) rfl (px_f164_132)
set_option maxRecDepth 20000 in
theorem px_f164_111 : px_fine 164 px_c164_111 := px_fine_add (n := 5) (t := px_c164_118) (by decide +kernel) rfl (px_f164_118)
set_option maxRecDepth 20000 in
theorem px_f164_78 : px_fine 164 px_c164_78 := px_fine_add (n := 21) (t := px_c164_111) (by decide +kernel) rfl (px_f164_111)
set_option maxRecDepth 20000 in
theorem px_f164_57 : px_fine 164 px_c164_57 := px_fine_add (n := 12) (t := px_c164_78) (by decide +kernel) rfl (px_f164_78)
set_option maxRecDepth 20000 in
theorem px_f164_41 : px_fine 164 px_c164_41 := px_fine_add (n := 9) (t := px_c164_57) (by decide +kernel) rfl (px_f164_57)
set_option maxRecDepth 20000 in
theorem px_f164_24 : px_fine 164 px_c164_24 := px_fine_add (n := 10) (t := px_c164_41) (by decide +kernel) rfl (px_f164_41)
set_option maxRecDepth 20000 in
theorem px_f164_18 : px_fine 164 px_c164_18 := px_fine_add (n := 4) (t := px_c164_24) (by decide +kernel) rfl (px_f164_24)
set_option maxRecDepth 20000 in
theorem px_f164_0 : px_fine 164 px_c164_0 := px_fine_add (n := 9) (t := px_c164_18) (by decide +kernel) rfl (px_f164_18)
set_option maxRecDepth 20000 in
theorem px_f165_20 : px_fine 165 px_c165_20 := px_fine_add (n := 2) (t := []) (by decide +kernel) rfl (px_fine_nil 165)
set_option maxRecDepth 20000 in
theorem px_f165_4 : px_fine 165 px_c165_4 := px_fine_add (n := 10) (t := px_c165_20) (by decide +kernel) rfl (px_f165_20)
set_option maxRecDepth 20000 in
theorem px_f165_0 : px_fine 165 px_c165_0 := px_fine_add (n := 4) (t := px_c165_4) (by decide +kernel) rfl (px_f165_4)
set_option maxRecDepth 20000 in
theorem px_f166_44 : px_fine 166 px_c166_44 := px_fine_add (n := 1) (t := []) (by decide +kernel) rfl (px_fine_nil 166)
set_option maxRecDepth 20000 in
theorem px_f166_43 : px_fine 166 px_c166_43 := px_fine_add (n := 1) (t := px_c166_44) (by decide +kernel) rfl (px_f166_44)
set_option maxRecDepth 20000 in
theorem px_f166_29 : px_fine 166 px_c166_29 := px_fine_add (n := 7) (t := px_c166_43) (by decide +kernel) rfl (px_f166_43)
set_option maxRecDepth 20000 in
theorem px_f166_12 : px_fine 166 px_c166_12 := px_fine_add (n := 10) (t := px_c166_29) (by decide +kernel) rfl (px_f166_29)
set_option maxRecDepth 20000 in
theorem px_f166_0 : px_fine 166 px_c166_0 := px_fine_add (n := 6) (t := px_c166_12) (by decide +kernel) rfl (px_f166_12)
set_option maxRecDepth 20000 in
theorem px_f167_0 : px_fine 167 px_c167_0 := px_fine_add (n := 10) (t := []) (by decide +kernel) rfl (px_fine_nil 167)
set_option maxRecDepth 20000 in
theorem px_f168_50 : px_fine 168 px_c168_50 := px_fine_add (n := 1) (t := []) (by decide +kernel) rfl (px_fine_nil 168)
set_option maxRecDepth 20000 in
theorem px_f168_49 : px_fine 168 px_c168_49 := px_fine_add (n := 1) (t := px_c168_50) (by decide +kernel) rfl (px_f168_50)
set_option maxRecDepth 20000 in
theorem px_f168_0 : px_fine 168 px_c168_0 := px_fine_add (n := 25) (t := px_c168_49) (by decide +kernel) rfl (px_f168_49)
set_option maxRecDepth 20000 in
theorem px_f169_0 : px_fine 169 px_c169_0 := px_fine_add (n := 32) (t := []) (by decide +kernel) rfl (px_fine_nil 169)
set_option maxRecDepth 20000 in
theorem px_f170_46 : px_fine 170 px_c170_46 := px_fine_add (n := 1) (t := []) (by decide +kernel) rfl (px_fine_nil 170)
set_option maxRecDepth 20000 in
theorem px_f170_37 : px_fine 170 px_c170_37 := px_fine_add (n := 6) (t := px_c170_46) (by decide +kernel) rfl (px_f170_46)
set_option maxRecDepth 20000 in
theorem px_f170_19 : px_fine 170 px_c170_19 := px_fine_add (n := 8) (t := px_c170_37) (by decide +kernel) rfl (px_f170_37)
set_option maxRecDepth 20000 in
theorem px_f170_0 : px_fine 170 px_c170_0 := px_fine_add (n := 11) (t := px_c170_19) (by decide +kernel) rfl (px_f170_19)
set_option maxRecDepth 20000 in
theorem px_f171_0 : px_fine 171 px_c171_0 := px_fine_add (n := 32) (t := []) (by decide +kernel) rfl (px_fine_nil 171)
set_option maxRecDepth 20000 in
theorem px_f172_55 : px_fine 172 px_c172_55 := px_fine_add (n := 1) (t := []) (by decide +kernel) rfl (px_fine_nil 172)
set_option maxRecDepth 20000 in
theorem px_f172_49 : px_fine 172 px_c172_49 := px_fine_add (n := 4) (t := px_c172_55) (by decide +kernel) rfl (px_f172_55)
set_option maxRecDepth 20000 in
theorem px_f172_31 : px_fine 172 px_c172_31 := px_fine_add (n := 8) (t := px_c172_49) (by decide +kernel) rfl (px_f172_49)
set_option maxRecDepth 20000 in
theorem px_f172_24 : px_fine 172 px_c172_24 := px_fine_add (n := 4) (t := px_c172_31) (by decide +kernel) rfl (px_f172_31)
set_option maxRecDepth 20000 in
theorem px_f172_14 : px_fine 172 px_c172_14 := px_fine_add (n := 5) (t := px_c172_24) (by decide +kernel) rfl (px_f172_24)
set_option maxRecDepth 20000 in
theorem px_f172_0 : px_fine 172 px_c172_0 := px_fine_add (n := 8) (t := px_c172_14) (by decide +kernel) rfl (px_f172_14)
set_option maxRecDepth 20000 in
theorem px_f173_57 : px_fine 173 px_c173_57 := px_fine_add (n := 1) (t := []) (by decide +kernel) rfl (px_fine_nil 173)
set_option maxRecDepth 20000 in
theorem px_f173_56 : px_fine 173 px_c173_56 := px_fine_add (n := 1) (t := px_c173_57) (by decide +kernel) rfl (px_f173_57)
set_option maxRecDepth 20000 in
theorem px_f173_43 : px_fine 173 px_c173_43 := px_fine_add (n := 6) (t := px_c173_56) (by decide +kernel) rfl (px_f173_56)
set_option maxRecDepth 20000 in
theorem px_f173_39 : px_fine 173 px_c173_39 := px_fine_add (n := 2) (t := px_c173_43) (by decide +kernel) rfl (px_f173_43)
set_option maxRecDepth 20000 in
theorem px_f173_21 : px_fine 173 px_c173_21 := px_fine_add (n := 9) (t := px_c173_39) (by decide +kernel) rfl (px_f173_39)
set_option maxRecDepth 20000 in
theorem px_f173_17 : px_fine 173 px_c173_17 := px_fine_add (n := 2) (t := px_c173_21) (by decide +kernel) rfl (px_f173_21)
set_option maxRecDepth 20000 in
theorem px_f173_0 : px_fine 173 px_c173_0 := px_fine_add (n := 8) (t := px_c173_17) (by decide +kernel) rfl (px_f173_17)
set_option maxRecDepth 20000 in
theorem px_f174_93 : px_fine 174 px_c174_93 := px_fine_add (n := 1) (t := []) (by decide +kernel) rfl (px_fine_nil 174)
set_option maxRecDepth 20000 in
theorem px_f174_89 : px_fine 174 px_c174_89 := px_fine_add (n := 2) (t := px_c174_93) (by decide +kernel) rfl (px_f174_93)
set_option maxRecDepth 20000 in
theorem px_f174_77 : px_fine 174 px_c174_77 := px_fine_add (n := 6) (t := px_c174_89) (by decide +kernel) rfl (px_f174_89)
set_option maxRecDepth 20000 in
theorem px_f174_66 : px_fine 174 px_c174_66 := px_fine_add (n := 5) (t := px_c174_77) (by decide +kernel) rfl (px_f174_77)
set_option maxRecDepth 20000 in
theorem px_f174_49 : px_fine 174 px_c174_49 := px_fine_add (n := 11) (t := px_c174_66) (by decide +kernel) rfl (px_f174_66)
set_option maxRecDepth 20000 in
theorem px_f174_24 : px_fine 174 px_c174_24 := px_fine_add (n := 15) (t := px_c174_49) (by decide +kernel) rfl (px_f174_49)
set_option maxRecDepth 20000 in
theorem px_f174_0 : px_fine 174 px_c174_0 := px_fine_add (n := 14) (t := px_c174_24) (by decide +kernel) rfl (px_f174_24)
set_option maxRecDepth 20000 in
theorem px_f175_46 : px_fine 175 px_c175_46 := px_fine_add (n := 1) (t := []) (by decide +kernel) rfl (px_fine_nil 175)
set_option maxRecDepth 20000 in
theorem px_f175_40 : px_fine 175 px_c175_40 := px_fine_add (n := 4) (t := px_c175_46) (by decide +kernel) rfl (px_f175_46)
set_option maxRecDepth 20000 in
theorem px_f175_23 : px_fine 175 px_c175_23 := px_fine_add (n := 8) (t := px_c175_40) (by decide +kernel) rfl (px_f175_40)
set_option maxRecDepth 20000 in
theorem px_f175_17 : px_fine 175 px_c175_17 := px_fine_add (n := 4) (t := px_c175_23) (by decide +kernel) rfl (px_f175_23)
set_option maxRecDepth 20000 in
theorem px_f175_0 : px_fine 175 px_c175_0 := px_fine_add (n := 9) (t := px_c175_17) (by decide +kernel) rfl (px_f175_17)
set_option maxRecDepth 20000 in
theorem px_f176_0 : px_fine 176 px_c176_0 := px_fine_add (n := 20) (t := []) (by decide +kernel) rfl (px_fine_nil 176)
set_option maxRecDepth 20000 in
theorem px_f177_56 : px_fine 177 px_c177_56 := px_fine_add (n := 1) (t := []) (by decide +kernel) rfl (px_fine_nil 177)
set_option maxRecDepth 20000 in
theorem px_f177_50 : px_fine 177 px_c177_50 := px_fine_add (n := 4) (t := px_c177_56) (by decide +kernel) rfl (px_f177_56)
set_option maxRecDepth 20000 in
theorem px_f177_32 : px_fine 177 px_c177_32 := px_fine_add (n := 8) (t := px_c177_50) (by decide +kernel) rfl (px_f177_50)
set_option maxRecDepth 20000 in
theorem px_f177_25 : px_fine 177 px_c177_25 := px_fine_add (n := 4) (t := px_c177_32) (by decide +kernel) rfl (px_f177_32)
set_option maxRecDepth 20000 in
theorem px_f177_14 : px_fine 177 px_c177_14 := px_fine_add (n := 5) (t := px_c177_25) (by decide +kernel) rfl (px_f177_25)
set_option maxRecDepth 20000 in
theorem px_f177_0 : px_fine 177 px_c177_0 := px_fine_add (n := 8) (t := px_c177_14) (by decide +kernel) rfl (px_f177_14)
set_option maxRecDepth 20000 in
theorem px_f178_0 : px_fine 178 px_c178_0 := px_fine_add (n := 26) (t := []) (by decide +kernel) rfl (px_fine_nil 178)
set_option maxRecDepth 20000 in
theorem px_f179_66 : px_fine 179 px_c179_66 := px_fine_add (n := 1) (t := []) (by decide +kernel) rfl (px_fine_nil 179)
set_option maxRecDepth 20000 in
theorem px_f179_59 : px_fine 179 px_c179_59 := px_fine_add (n := 5) (t := px_c179_66) (by decide +kernel) rfl (px_f179_66)
set_option maxRecDepth 20000 in
theorem px_f179_41 : px_fine 179 px_c179_41 := px_fine_add (n := 8) (t := px_c179_59) (by decide +kernel) rfl (px_f179_59)
set_option maxRecDepth 20000 in
theorem px_f179_34 : px_fine 179 px_c179_34 := px_fine_add (n := 4) (t := px_c179_41) (by decide +kernel) rfl (px_f179_41)
set_option maxRecDepth 20000 in
theorem px_f179_14 : px_fine 179 px_c179_14 := px_fine_add (n := 10) (t := px_c179_34) (by decide +kernel) rfl (px_f179_34)
set_option maxRecDepth 20000 in
theorem px_f179_0 : px_fine 179 px_c179_0 := px_fine_add (n := 8) (t := px_c179_14) (by decide +kernel) rfl (px_f179_14)
set_option maxRecDepth 20000 in
theorem px_f180_72 : px_fine 180 px_c180_72 := px_fine_add (n := 1) (t := []) (by decide +kernel) rfl (px_fine_nil 180)
set_option maxRecDepth 20000 in
theorem px_f180_71 : px_fine 180 px_c180_71 := px_fine_add (n := 1) (t := px_c180_72) (by decide +kernel) rfl (px_f180_72)
set_option maxRecDepth 20000 in
theorem px_f180_67 : px_fine 180 px_c180_67 := px_fine_add (n := 2) (t := px_c180_71) (by decide +kernel) rfl (px_f180_71)
set_option maxRecDepth 20000 in
theorem px_f180_56 : px_fine 180 px_c180_56 := px_fine_add (n := 6) (t := px_c180_67) (by decide +kernel) rfl (px_f180_67)
set_option maxRecDepth 20000 in
theorem px_f180_42 : px_fine 180 px_c180_42 := px_fine_add (n := 7) (t := px_c180_56) (by decide +kernel) rfl (px_f180_56)
set_option maxRecDepth 20000 in
theorem px_f180_23 : px_fine 180 px_c180_23 := px_fine_add (n := 10) (t := px_c180_42) (by decide +kernel) rfl (px_f180_42)
set_option maxRecDepth 20000 in
theorem px_f180_19 : px_fine 180 px_c180_19 := px_fine_add (n := 2) (t := px_c180_23) (by decide +kernel) rfl (px_f180_23)
set_option maxRecDepth 20000 in
theorem px_f180_0 : px_fine 180 px_c180_0 := px_fine_add (n := 9) (t := px_c180_19) (by decide +kernel) rfl (px_f180_19)
set_option maxRecDepth 20000 in
theorem px_f181_83 : px_fine 181 px_c181_83 := px_fine_add (n := 2) (t := []) (by decide +kernel) rfl (px_fine_nil 181)
set_option maxRecDepth 20000 in
theorem px_f181_78 : px_fine 181 px_c181_78 := px_fine_add (n := 3) (t := px_c181_83) (by decide +kernel) rfl (px_f181_83)
set_option maxRecDepth 20000 in
theorem px_f181_65 : px_fine 181 px_c181_65 := px_fine_add (n := 7) (t := px_c181_78) (by decide +kernel) rfl (px_f181_78)
set_option maxRecDepth 20000 in
theorem px_f181_52 : px_fine 181 px_c181_52 := px_fine_add (n := 7) (t := px_c181_65) (by decide +kernel) rfl (px_f181_65)
set_option maxRecDepth 20000 in
theorem px_f181_39 : px_fine 181 px_c181_39 := px_fine_add (n := 7) (t := px_c181_52) (by decide +kernel) rfl (px_f181_52)
set_option maxRecDepth 20000 in
theorem px_f181_35 : px_fine 181 px_c181_35 := px_fine_add (n := 2) (t := px_c181_39) (by decide +kernel) rfl (px_f181_39)
set_option maxRecDepth 20000 in
theorem px_f181_23 : px_fine 181 px_c181_23 := px_fine_add (n := 6) (t := px_c181_35) (by decide +kernel) rfl (px_f181_35)
set_option maxRecDepth 20000 in
theorem px_f181_11 : px_fine 181 px_c181_11 := px_fine_add (n := 6) (t := px_c181_23) (by decide +kernel) rfl (px_f181_23)
set_option maxRecDepth 20000 in
theorem px_f181_0 : px_fine 181 px_c181_0 := px_fine_add (n := 5) (t := px_c181_11) (by decide +kernel) rfl (px_f181_11)
set_option maxRecDepth 20000 in
theorem px_f182_24 : px_fine 182 px_c182_24 := px_fine_add (n := 1) (t := []) (by decide +kernel) rfl (px_fine_nil 182)
set_option maxRecDepth 20000 in
theorem px_f182_18 : px_fine 182 px_c182_18 := px_fine_add (n := 3) (t := px_c182_24) (by decide +kernel) rfl (px_f182_24)
set_option maxRecDepth 20000 in
theorem px_f182_0 : px_fine 182 px_c182_0 := px_fine_add (n := 10) (t := px_c182_18) (by decide +kernel) rfl (px_f182_18)
set_option maxRecDepth 20000 in
theorem px_f183_0 : px_fine 183 px_c183_0 := px_fine_add (n := 5) (t := []) (by decide +kernel) rfl (px_fine_nil 183)
set_option maxRecDepth 20000 in
theorem px_f184_130 : px_fine 184 px_c184_130 := px_fine_add (n := 5) (t := []) (by decide +kernel) rfl (px_fine_nil 184)
set_option maxRecDepth 20000 in
theorem px_f184_121 : px_fine 184 px_c184_121 := px_fine_add (n := 3) (t := px_c184_130) (by decide +kernel) rfl (px_f184_130)
set_option maxRecDepth 20000 in
theorem px_f184_106 : px_fine 184 px_c184_106 := px_fine_add (n := 7) (t := px_c184_121) (by decide +kernel) rfl (px_f184_121)
set_option maxRecDepth 20000 in
theorem px_f184_105 : px_fine 184 px_c184_105 := px_fine_add (n := 1) (t := px_c184_106) (by decide +kernel) rfl (px_f184_106)
set_option maxRecDepth 20000 in
theorem px_f184_104 : px_fine 184 px_c184_104 := px_fine_add (n := 1) (t := px_c184_105) (by decide +kernel) rfl (px_f184_105)
set_option maxRecDepth 20000 in
theorem px_f184_93 : px_fine 184 px_c184_93 := px_fine_add (n := 5) (t := px_c184_104) (by decide +kernel) rfl (px_f184_104)
set_option maxRecDepth 20000 in
theorem px_f184_75 : px_fine 184 px_c184_75 := px_fine_add (n := 10) (t := px_c184_93) (by decide +kernel) rfl (px_f184_93)
set_option maxRecDepth 20000 in
theorem px_f184_24 : px_fine 184 px_c184_24 := px_fine_add (n := 25) (t := px_c184_75) (by decide +kernel) rfl (px_f184_75)
set_option maxRecDepth 20000 in
theorem px_f184_9 : px_fine 184 px_c184_9 := px_fine_add (n := 8) (t := px_c184_24) (by decide +kernel) rfl (px_f184_24)
set_option maxRecDepth 20000 in
theorem px_f184_0 : px_fine 184 px_c184_0 := px_fine_add (n := 7) (t := px_c184_9) (by decide +kernel) rfl (px_f184_9)
set_option maxRecDepth 20000 in
theorem px_f185_56 : px_fine 185 px_c185_56 := px_fine_add (n := 1) (t := []) (by decide +kernel) rfl (px_fine_nil 185)
set_option maxRecDepth 20000 in
theorem px_f185_55 : px_fine 185 px_c185_55 := px_fine_add (n := 1) (t := px_c185_56) (by decide +kernel) rfl (px_f185_56)
set_option maxRecDepth 20000 in
theorem px_f185_0 : px_fine 185 px_c185_0 := px_fine_add (n := 29) (t := px_c185_55) (by decide +kernel) rfl (px_f185_55)
set_option maxRecDepth 20000 in
theorem px_f186_117 : px_fine 186 px_c186_117 := px_fine_add (n := 1) (t := []) (by decide +kernel) rfl (px_fine_nil 186)
set_option maxRecDepth 20000 in
theorem px_f186_116 : px_fine 186 px_c186_116 := px_fine_add (n := 1) (t := px_c186_117) (by decide +kernel) rfl (px_f186_117)
set_option maxRecDepth 20000 in
theorem px_f186_112 : px_fine 186 px_c186_112 := px_fine_add (n := 2) (t := px_c186_116) (by decide +kernel) rfl (px_f186_116)
set_option maxRecDepth 20000 in
theorem px_f186_104 : px_fine 186 px_c186_104 := px_fine_add (n := 4) (t := px_c186_112) (by decide +kernel) rfl (px_f186_112)
set_option maxRecDepth 20000 in
theorem px_f186_88 : px_fine 186 px_c186_88 := px_fine_add (n := 8) (t := px_c186_104) (by decide +kernel) rfl (px_f186_104)
set_option maxRecDepth 20000 in
theorem px_f186_29 : px_fine 186 px_c186_29 := px_fine_add (n := 32) (t := px_c186_88) (by decide +kernel) rfl (px_f186_88)
set_option maxRecDepth 20000 in
theorem px_f186_26 : px_fine 186 px_c186_26 := px_fine_add (n := 2) (t := px_c186_29) (by decide +kernel) rfl (px_f186_29)
set_option maxRecDepth 20000 in
theorem px_f186_0 : px_fine 186 px_c186_0 := px_fine_add (n := 14) (t := px_c186_26) (by decide +kernel) rfl (px_f186_26)
set_option maxRecDepth 20000 in
theorem px_f187_40 : px_fine 187 px_c187_40 := px_fine_add (n := 11) (t := []) (by decide +kernel) rfl (px_fine_nil 187)
set_option maxRecDepth 20000 in
theorem px_f187_31 : px_fine 187 px_c187_31 := px_fine_add (n := 5) (t := px_c187_40) (by decide +kernel) rfl (px_f187_40)
set_option maxRecDepth 20000 in
theorem px_f187_0 : px_fine 187 px_c187_0 := px_fine_add (n := 16) (t := px_c187_31) (by decide +kernel) rfl (px_f187_31)
set_option maxRecDepth 20000 in
theorem px_f188_109 : px_fine 188 px_c188_109 := px_fine_add (n := 1) (t := []) (by decide +kernel) rfl (px_fine_nil 188)
set_option maxRecDepth 20000 in
theorem px_f188_108 : px_fine 188 px_c188_108 := px_fine_add (n := 1) (t := px_c188_109) (by decide +kernel) rfl (px_f188_109)
set_option maxRecDepth 20000 in
theorem px_f188_89 : px_fine 188 px_c188_89 := px_fine_add (n := 9) (t := px_c188_108) (by decide +kernel) rfl (px_f188_108)
set_option maxRecDepth 20000 in
theorem px_f188_85 : px_fine 188 px_c188_85 := px_fine_add (n := 2) (t := px_c188_89) (by decide +kernel) rfl (px_f188_89)
set_option maxRecDepth 20000 in
theorem px_f188_66 : px_fine 188 px_c188_66 := px_fine_add (n := 9) (t := px_c188_85) (by decide +kernel) rfl (px_f188_85)
set_option maxRecDepth 20000 in
theorem px_f188_44 : px_fine 188 px_c188_44 := px_fine_add (n := 12) (t := px_c188_66) (by decide +kernel) rfl (px_f188_66)
set_option maxRecDepth 20000 in
theorem px_f188_40 : px_fine 188 px_c188_40 := px_fine_add (n := 2) (t := px_c188_44) (by decide +kernel) rfl (px_f188_44)
set_option maxRecDepth 20000 in
theorem px_f188_22 : px_fine 188 px_c188_22 := px_fine_add (n := 9) (t := px_c188_40) (by decide +kernel) rfl (px_f188_40)
set_option maxRecDepth 20000 in
theorem px_f188_18 : px_fine 188 px_c188_18 := px_fine_add (n := 2) (t := px_c188_22) (by decide +kernel) rfl (px_f188_22)
set_option maxRecDepth 20000 in
theorem px_f188_0 : px_fine 188 px_c188_0 := px_fine_add (n := 9) (t := px_c188_18) (by decide +kernel) rfl (px_f188_18)
set_option maxRecDepth 20000 in
theorem px_f189_102 : px_fine 189 px_c189_102 := px_fine_add (n := 1) (t := []) (by decide +kernel) rfl (px_fine_nil 189)
set_option maxRecDepth 20000 in
theorem px_f189_101 : px_fine 189 px_c189_101 := px_fine_add (n := 1) (t := px_c189_102) (by decide +kernel) rfl (px_f189_102)
set_option maxRecDepth 20000 in
theorem px_f189_86 : px_fine 189 px_c189_86 := px_fine_add (n := 8) (t := px_c189_101) (by decide +kernel) rfl (px_f189_101)
set_option maxRecDepth 20000 in
theorem px_f189_37 : px_fine 189 px_c189_37 := px_fine_add (n := 26) (t := px_c189_86) (by decide +kernel) rfl (px_f189_86)
set_option maxRecDepth 20000 in
theorem px_f189_32 : px_fine 189 px_c189_32 := px_fine_add (n := 3) (t := px_c189_37) (by decide +kernel) rfl (px_f189_37)
set_option maxRecDepth 20000 in
theorem px_f189_24 : px_fine 189 px_c189_24 := px_fine_add (n := 4) (t := px_c189_32) (by decide +kernel) rfl (px_f189_32)
set_option maxRecDepth 20000 in
theorem px_f189_23 : px_fine 189 px_c189_23 := px_fine_add (n := 1) (t := px_c189_24) (by decide +kernel) rfl (px_f189_24)
set_option maxRecDepth 20000 in
theorem px_f189_4 : px_fine 189 px_c189_4 := px_fine_add (n := 11) (t := px_c189_23) (by decide +kernel) rfl (px_f189_23)
set_option maxRecDepth 20000 in
theorem px_f189_0 : px_fine 189 px_c189_0 := px_fine_add (n := 4) (t := px_c189_4) (by decide +kernel) rfl (px_f189_4)
set_option maxRecDepth 20000 in
theorem px_f190_457 : px_fine 190 px_c190_457 := px_fine_add (n := 2) (t := []) (by decide +kernel) rfl (px_fine_nil 190)
set_option maxRecDepth 20000 in
theorem px_f190_442 : px_fine 190 px_c190_442 := px_fine_add (n := 8) (t := px_c190_457) (by decide +kernel) rfl (px_f190_457)
set_option maxRecDepth 20000 in
theorem px_f190_424 : px_fine 190 px_c190_424 := px_fine_add (n := 10) (t := px_c190_442) (by decide +kernel) rfl (px_f190_442)
set_option maxRecDepth 20000 in
theorem px_f190_412 : px_fine 190 px_c190_412 := px_fine_add (n := 7) (t := px_c190_424) (by decide +kernel) rfl (px_f190_424)
set_option maxRecDepth 20000 in
theorem px_f190_396 : px_fine 190 px_c190_396 := px_fine_add (n := 8) (t := px_c190_412) (by decide +kernel) rfl (px_f190_412)
set_option maxRecDepth 20000 in
theorem px_f190_378 : px_fine 190 px_c190_378 := px_fine_add (n := 10) (t := px_c190_396) (by decide +kernel) rfl (px_f190_396)
set_option maxRecDepth 20000 in
theorem px_f190_360 : px_fine 190 px_c190_360 := px_fine_add (n := 9) (t := px_c190_378) (by decide +kernel) rfl (px_f190_378)
set_option maxRecDepth 20000 in
theorem px_f190_337 : px_fine 190 px_c190_337 := px_fine_add (n := 12) (t := px_c190_360) (by decide +kernel) rfl (px_f190_360)
set_option maxRecDepth 20000 in
theorem px_f190_329 : px_fine 190 px_c190_329 := px_fine_add (n := 4) (t := px_c190_337) (by decide +kernel) rfl (px_f190_337)
set_option maxRecDepth 20000 in
theorem px_f190_326 : px_fine 190 px_c190_326 := px_fine_add (n := 1) (t := px_c190_329) (by decide +kernel) rfl (px_f190_329)
set_option maxRecDepth 20000 in
theorem px_f190_321 : px_fine 190 px_c190_321 := px_fine_add (n := 2) (t := px_c190_326) (by decide +kernel) rfl (px_f190_326)
set_option maxRecDepth 20000 in
theorem px_f190_311 : px_fine 190 px_c190_311 := px_fine_add (n := 6) (t := px_c190_321) (by decide +kernel) rfl (px_f190_321)
set_option maxRecDepth 20000 in
theorem px_f190_310 : px_fine 190 px_c190_310 := px_fine_add (n := 1) (t := px_c190_311) (by decide +kernel) rfl (px_f190_311)
set_option maxRecDepth 20000 in
theorem px_f190_306 : px_fine 190 px_c190_306 := px_fine_add (n := 2) (t := px_c190_310) (by decide +kernel) rfl (px_f190_310)
set_option maxRecDepth 20000 in
theorem px_f190_294 : px_fine 190 px_c190_294 := px_fine_add (n := 7) (t := px_c190_306) (by decide +kernel) rfl (px_f190_306)
set_option maxRecDepth 20000 in
theorem px_f190_263 : px_fine 190 px_c190_263 := px_fine_add (n := 18) (t := px_c190_294) (by decide +kernel) rfl (px_f190_294)
set_option maxRecDepth 20000 in
theorem px_f190_255 : px_fine 190 px_c190_255 := px_fine_add (n := 4) (t := px_c190_263) (by decide +kernel) rfl (px_f190_263)
set_option maxRecDepth 20000 in
theorem px_f190_253 : px_fine 190 px_c190_253 := px_fine_add (n := 1) (t := px_c190_255) (by decide +kernel) rfl (px_f190_255)
set_option maxRecDepth 20000 in
theorem px_f190_243 : px_fine 190 px_c190_243 := px_fine_add (n := 5) (t := px_c190_253) (by decide +kernel) rfl (px_f190_253)
set_option maxRecDepth 20000 in
theorem px_f190_242 : px_fine 190 px_c190_242 := px_fine_add (n := 1) (t := px_c190_243) (by decide +kernel) rfl (px_f190_243)
set_option maxRecDepth 20000 in
theorem px_f190_232 : px_fine 190 px_c190_232 := px_fine_add (n := 6) (t := px_c190_242) (by decide +kernel) rfl (px_f190_242)
set_option maxRecDepth 20000 in
theorem px_f190_221 : px_fine 190 px_c190_221 := px_fine_add (n := 7) (t := px_c190_232) (by decide +kernel) rfl (px_f190_232)
set_option maxRecDepth 20000 in
theorem px_f190_220 : px_fine 190 px_c190_220 := px_fine_add (n := 1) (t := px_c190_221) (by decide +kernel) rfl (px_f190_221)
set_option maxRecDepth 20000 in
theorem px_f190_207 : px_fine 190 px_c190_207 := px_fine_add (n := 6) (t := px_c190_220) (by decide +kernel) rfl (px_f190_220)
set_option maxRecDepth 20000 in
theorem px_f190_203 : px_fine 190 px_c190_203 := px_fine_add (n := 2) (t := px_c190_207) (by decide +kernel) rfl (px_f190_207)
set_option maxRecDepth 20000 in
theorem px_f190_184 : px_fine 190 px_c190_184 := px_fine_add (n := 9) (t := px_c190_203) (by decide +kernel) rfl (px_f190_203)
set_option maxRecDepth 20000 in
theorem px_f190_167 : px_fine 190 px_c190_167 := px_fine_add (n := 9) (t := px_c190_184) (by decide +kernel) rfl (px_f190_184)
set_option maxRecDepth 20000 in
theorem px_f190_163 : px_fine 190 px_c190_163 := px_fine_add (n := 2) (t := px_c190_167) (by decide +kernel) rfl (px_f190_167)
set_option maxRecDepth 20000 in
theorem px_f190_145 : px_fine 190 px_c190_145 := px_fine_add (n := 9) (t := px_c190_163) (by decide +kernel) rfl (px_f190_163)
set_option maxRecDepth 20000 in
theorem px_f190_141 : px_fine 190 px_c190_141 := px_fine_add (n := 2) (t := px_c190_145) (by decide +kernel) rfl (px_f190_145)
set_option maxRecDepth 20000 in
theorem px_f190_123 : px_fine 190 px_c190_123 := px_fine_add (n := 9) (t := px_c190_141) (by decide +kernel) rfl (px_f190_141)
set_option maxRecDepth 20000 in
theorem px_f190_111 : px_fine 190 px_c190_111 := px_fine_add (n := 8) (t := px_c190_123) (by decide +kernel) rfl (px_f190_123)
set_option maxRecDepth 20000 in
theorem px_f190_103 : px_fine 190 px_c190_103 := px_fine_add (n := 4) (t := px_c190_111) (by decide +kernel) rfl (px_f190_111)
set_option maxRecDepth 20000 in
theorem px_f190_101 : px_fine 190 px_c190_101 := px_fine_add (n := 1) (t := px_c190_103) (by decide +kernel) rfl (px_f190_103)
set_option maxRecDepth 20000 in
theorem px_f190_91 : px_fine 190 px_c190_91 := px_fine_add (n := 5) (t := px_c190_101) (by decide +kernel) rfl (px_f190_101)
set_option maxRecDepth 20000 in
theorem px_f190_81 : px_fine 190 px_c190_81 := px_fine_add (n := 5) (t := px_c190_91) (by decide +kernel) rfl (px_f190_91)
set_option maxRecDepth 20000 in
theorem px_f190_71 : px_fine 190 px_c190_71 := px_fine_add (n := 4) (t := px_c190_81) (by decide +kernel) rfl (px_f190_81)
set_option maxRecDepth 20000 in
theorem px_f190_70 : px_fine 190 px_c190_70 := px_fine_add (n := 1) (t := px_c190_71) (by decide +kernel) rfl (px_f190_71)
set_option maxRecDepth 20000 in
theorem px_f190_56 : px_fine 190 px_c190_56 := px_fine_add (n := 8) (t := px_c190_70) (by decide +kernel) rfl (px_f190_70)
set_option maxRecDepth 20000 in
theorem px_f190_39 : px_fine 190 px_c190_39 := px_fine_add (n := 11) (t := px_c190_56) (by decide +kernel) rfl (px_f190_56)
set_option maxRecDepth 20000 in
theorem px_f190_33 : px_fine 190 px_c190_33 := px_fine_add (n := 2) (t := px_c190_39) (by decide +kernel) rfl (px_f190_39)
set_option maxRecDepth 20000 in
theorem px_f190_2 : px_fine 190 px_c190_2 := px_fine_add (n := 16) (t := px_c190_33) (by decide +kernel) rfl (px_f190_33)
set_option maxRecDepth 20000 in
theorem px_f190_0 : px_fine 190 px_c190_0 := px_fine_add (n := 2) (t := px_c190_2) (by decide +kernel) rfl (px_f190_2)
set_option maxRecDepth 20000 in
theorem px_f191_87 : px_fine 191 px_c191_87 := px_fine_add (n := 56) (t := []) (by decide +kernel) rfl (px_fine_nil 191)
set_option maxRecDepth 20000 in
theorem px_f191_0 : px_fine 191 px_c191_0 := px_fine_add (n := 58) (t := px_c191_87) (by decide +kernel) rfl (px_f191_87)
set_option maxRecDepth 20000 in
theorem px_f192_140 : px_fine 192 px_c192_140 := px_fine_add (n := 13) (t := []) (by decide +kernel) rfl (px_fine_nil 192)
set_option maxRecDepth 20000 in
theorem px_f192_133 : px_fine 192 px_c192_133 := px_fine_add (n := 4) (t := px_c192_140) (by decide +kernel) rfl (px_f192_140)
set_option maxRecDepth 20000 in
theorem px_f192_111 : px_fine 192 px_c192_111 := px_fine_add (n := 11) (t := px_c192_133) (by decide +kernel) rfl (px_f192_133)
set_option maxRecDepth 20000 in
theorem px_f192_62 : px_fine 192 px_c192_62 := px_fine_add (n := 24) (t := px_c192_111) (by decide +kernel) rfl (px_f192_111)
set_option maxRecDepth 20000 in
theorem px_f192_17 : px_fine 192 px_c192_17 := px_fine_add (n := 27) (t := px_c192_62) (by decide +kernel) rfl (px_f192_62)
set_option maxRecDepth 20000 in
theorem px_f192_0 : px_fine 192 px_c192_0 := px_fine_add (n := 11) (t := px_c192_17) (by decide +kernel) rfl (px_f192_17)
set_option maxRecDepth 20000 in
theorem px_f193_0 : px_fine 193 px_c193_0 := px_fine_add (n := 3) (t := []) (by decide +kernel) rfl (px_fine_nil 193)
set_option maxRecDepth 20000 in
theorem px_f194_71 : px_fine 194 px_c194_71 := px_fine_add (n := 1) (t := []) (by decide +kernel) rfl (px_fine_nil 194)
set_option maxRecDepth 20000 in
theorem px_f194_65 : px_fine 194 px_c194_65 := px_fine_add (n := 4) (t := px_c194_71) (by decide +kernel) rfl (px_f194_71)
set_option maxRecDepth 20000 in
theorem px_f194_51 : px_fine 194 px_c194_51 := px_fine_add (n := 8) (t := px_c194_65) (by decide +kernel) rfl (px_f194_65)
set_option maxRecDepth 20000 in
theorem px_f194_37 : px_fine 194 px_c194_37 := px_fine_add (n := 8) (t := px_c194_51) (by decide +kernel) rfl (px_f194_51)
set_option maxRecDepth 20000 in
theorem px_f194_24 : px_fine 194 px_c194_24 := px_fine_add (n := 7) (t := px_c194_37) (by decide +kernel) rfl (px_f194_37)
set_option maxRecDepth 20000 in
theorem px_f194_17 : px_fine 194 px_c194_17 := px_fine_add (n := 4) (t := px_c194_24) (by decide +kernel) rfl (px_f194_24)
set_option maxRecDepth 20000 in
theorem px_f194_0 : px_fine 194 px_c194_0 := px_fine_add (n := 9) (t := px_c194_17) (by decide +kernel) rfl (px_f194_17)
set_option maxRecDepth 20000 in
theorem px_f195_71 : px_fine 195 px_c195_71 := px_fine_add (n := 1) (t := []) (by decide +kernel) rfl (px_fine_nil 195)
set_option maxRecDepth 20000 in
theorem px_f195_65 : px_fine 195 px_c195_65 := px_fine_add (n := 4) (t := px_c195_71) (by decide +kernel) rfl (px_f195_71)
set_option maxRecDepth 20000 in
theorem px_f195_51 : px_fine 195 px_c195_51 := px_fine_add (n := 8) (t := px_c195_65) (by decide +kernel) rfl (px_f195_65)
set_option maxRecDepth 20000 in
theorem px_f195_37 : px_fine 195 px_c195_37 := px_fine_add (n := 8) (t := px_c195_51) (by decide +kernel) rfl (px_f195_51)
set_option maxRecDepth 20000 in
theorem px_f195_24 : px_fine 195 px_c195_24 := px_fine_add (n := 7) (t := px_c195_37) (by decide +kernel) rfl (px_f195_37)
set_option maxRecDepth 20000 in
theorem px_f195_17 : px_fine 195 px_c195_17 := px_fine_add (n := 4) (t := px_c195_24) (by decide +kernel) rfl (px_f195_24)
set_option maxRecDepth 20000 in
theorem px_f195_0 : px_fine 195 px_c195_0 := px_fine_add (n := 9) (t := px_c195_17) (by decide +kernel) rfl (px_f195_17)
set_option maxRecDepth 20000 in
theorem px_f196_27 : px_fine 196 px_c196_27 := px_fine_add (n := 17) (t := []) (by decide +kernel) rfl (px_fine_nil 196)
set_option maxRecDepth 20000 in
theorem px_f196_21 : px_fine 196 px_c196_21 := px_fine_add (n := 4) (t := px_c196_27) (by decide +kernel) rfl (px_f196_27)
set_option maxRecDepth 20000 in
theorem px_f196_0 : px_fine 196 px_c196_0 := px_fine_add (n := 11) (t := px_c196_21) (by decide +kernel) rfl (px_f196_21)
set_option maxRecDepth 20000 in
theorem px_f197_53 : px_fine 197 px_c197_53 := px_fine_add (n := 7) (t := []) (by decide +kernel) rfl (px_fine_nil 197)
set_option maxRecDepth 20000 in
theorem px_f197_40 : px_fine 197 px_c197_40 := px_fine_add (n := 9) (t := px_c197_53) (by decide +kernel) rfl (px_f197_53)
set_option maxRecDepth 20000 in
theorem px_f197_39 : px_fine 197 px_c197_39 := px_fine_add (n := 1) (t := px_c197_40) (by decide +kernel) rfl (px_f197_40)
set_option maxRecDepth 20000 in
theorem px_f197_31 : px_fine 197 px_c197_31 := px_fine_add (n := 4) (t := px_c197_39) (by decide +kernel) rfl (px_f197_39)
set_option maxRecDepth 20000 in
theorem px_f197_14 : px_fine 197 px_c197_14 := px_fine_add (n := 10) (t := px_c197_31) (by decide +kernel) rfl (px_f197_31)
set_option maxRecDepth 20000 in
theorem px_f197_0 : px_fine 197 px_c197_0 := px_fine_add (n := 8) (t := px_c197_14) (by decide +kernel) rfl (px_f197_14)
set_option maxRecDepth 20000 in
theorem px_f198_34 : px_fine 198 px_c198_34 := px_fine_add (n := 2) (t := []) (by decide +kernel) rfl (px_fine_nil 198)
set_option maxRecDepth 20000 in
theorem px_f198_28 : px_fine 198 px_c198_28 := px_fine_add (n := 2) (t := px_c198_34) (by decide +kernel) rfl (px_f198_34)
set_option maxRecDepth 20000 in
theorem px_f198_4 : px_fine 198 px_c198_4 := px_fine_add (n := 16) (t := px_c198_28) (by decide +kernel) rfl (px_f198_28)
set_option maxRecDepth 20000 in
theorem px_f198_0 : px_fine 198 px_c198_0 := px_fine_add (n := 4) (t := px_c198_4) (by decide +kernel) rfl (px_f198_4)
set_option maxRecDepth 20000 in
theorem px_f199_46 : px_fine 199 px_c199_46 := px_fine_add (n := 1) (t := []) (by decide +kernel) rfl (px_fine_nil 199)
set_option maxRecDepth 20000 in
theorem px_f199_45 : px_fine 199 px_c199_45 := px_fine_add (n := 1) (t := px_c199_46) (by decide +kernel) rfl (px_f199_46)
set_option maxRecDepth 20000 in
theorem px_f199_30 : px_fine 199 px_c199_30 := px_fine_add (n := 8) (t := px_c199_45) (by decide +kernel) rfl (px_f199_45)
set_option maxRecDepth 20000 in
theorem px_f199_26 : px_fine 199 px_c199_26 := px_fine_add (n := 2) (t := px_c199_30) (by decide +kernel) rfl (px_f199_30)
set_option maxRecDepth 20000 in
theorem px_f199_15 : px_fine 199 px_c199_15 := px_fine_add (n := 6) (t := px_c199_26) (by decide +kernel) rfl (px_f199_26)
set_option maxRecDepth 20000 in
theorem px_f199_11 : px_fine 199 px_c199_11 := px_fine_add (n := 2) (t := px_c199_15) (by decide +kernel) rfl (px_f199_15)
set_option maxRecDepth 20000 in
theorem px_f199_0 : px_fine 199 px_c199_0 := px_fine_add (n := 6) (t := px_c199_11) (by decide +kernel) rfl (px_f199_11)
set_option maxRecDepth 20000 in
theorem px_f200_57 : px_fine 200 px_c200_57 := px_fine_add (n := 1) (t := []) (by decide +kernel) rfl (px_fine_nil 200)
set_option maxRecDepth 20000 in
theorem px_f200_56 : px_fine 200 px_c200_56 := px_fine_add (n := 1) (t := px_c200_57) (by decide +kernel) rfl (px_f200_57)
set_option maxRecDepth 20000 in
theorem px_f200_52 : px_fine 200 px_c200_52 := px_fine_add (n := 2) (t := px_c200_56) (by decide +kernel) rfl (px_f200_56)
set_option maxRecDepth 20000 in
theorem px_f200_38 : px_fine 200 px_c200_38 := px_fine_add (n := 6) (t := px_c200_52) (by decide +kernel) rfl (px_f200_52)
set_option maxRecDepth 20000 in
theorem px_f200_0 : px_fine 200 px_c200_0 := px_fine_add (n := 25) (t := px_c200_38) (by decide +kernel) rfl (px_f200_38)
set_option maxRecDepth 20000 in
theorem px_f201_174 : px_fine 201 px_c201_174 := px_fine_add (n := 2) (t := []) (by decide +kernel) rfl (px_fine_nil 201)
set_option maxRecDepth 20000 in
theorem px_f201_168 : px_fine 201 px_c201_168 := px_fine_add (n := 2) (t := px_c201_174) (by decide +kernel) rfl (px_f201_174)
set_option maxRecDepth 20000 in
theorem px_f201_135 : px_fine 201 px_c201_135 := px_fine_add (n := 18) (t := px_c201_168) (by decide +kernel) rfl (px_f201_168)
set_option maxRecDepth 20000 in
theorem px_f201_132 : px_fine 201 px_c201_132 := px_fine_add (n := 2) (t := px_c201_135) (by decide +kernel) rfl (px_f201_135)
set_option maxRecDepth 20000 in
theorem px_f201_126 : px_fine 201 px_c201_126 := px_fine_add (n := 2) (t := px_c201_132) (by decide +kernel) rfl (px_f201_132)
set_option maxRecDepth 20000 in
theorem px_f201_81 : px_fine 201 px_c201_81 := px_fine_add (n := 26) (t := px_c201_126) (by decide +kernel) rfl (px_f201_126)
set_option maxRecDepth 20000 in
theorem px_f201_63 : px_fine 201 px_c201_63 := px_fine_add (n := 11) (t := px_c201_81) (by decide +kernel) rfl (px_f201_81)
set_option maxRecDepth 20000 in
theorem px_f201_0 : px_fine 201 px_c201_0 := px_fine_add (n := 43) (t := px_c201_63) (by decide +kernel) rfl (px_f201_63)
set_option maxRecDepth 20000 in
theorem px_f202_263 : px_fine 202 px_c202_263 := px_fine_add (n := 2) (t := []) (by decide +kernel) rfl (px_fine_nil 202)
set_option maxRecDepth 20000 in
theorem px_f202_257 : px_fine 202 px_c202_257 := px_fine_add (n := 2) (t := px_c202_263) (by decide +kernel) rfl (px_f202_263)
set_option maxRecDepth 20000 in
theorem px_f202_243 : px_fine 202 px_c202_243 := px_fine_add (n := 8) (t := px_c202_257) (by decide +kernel) rfl (px_f202_257)
set_option maxRecDepth 20000 in
theorem px_f202_225 : px_fine 202 px_c202_225 := px_fine_add (n := 10) (t := px_c202_243) (by decide +kernel) rfl (px_f202_243)
set_option maxRecDepth 20000 in
theorem px_f202_224 : px_fine 202 px_c202_224 := px_fine_add (n := 1) (t := px_c202_225) (by decide +kernel) rfl (px_f202_225)
set_option maxRecDepth 20000 in
theorem px_f202_201 : px_fine 202 px_c202_201 := px_fine_add (n := 13) (t := px_c202_224) (by decide +kernel) rfl (px_f202_224)
set_option maxRecDepth 20000 in
theorem px_f202_199 : px_fine 202 px_c202_199 := px_fine_add (n := 1) (t := px_c202_201) (by decide +kernel) rfl (px_f202_201)
set_option maxRecDepth 20000 in
theorem px_f202_198 : px_fine 202 px_c202_198 := px_fine_add (n := 1) (t := px_c202_199) (by decide +kernel) rfl (px_f202_199)
set_option maxRecDepth 20000 in
theorem px_f202_178 : px_fine 202 px_c202_178 := px_fine_add (n := 12) (t := px_c202_198) (by decide +kernel) rfl (px_f202_198)
set_option maxRecDepth 20000 in
theorem px_f202_176 : px_fine 202 px_c202_176 := px_fine_add (n := 1) (t := px_c202_178) (by decide +kernel) rfl (px_f202_178)
set_option maxRecDepth 20000 in
theorem px_f202_175 : px_fine 202 px_c202_175 := px_fine_add (n := 1) (t := px_c202_176) (by decide +kernel) rfl (px_f202_176)
set_option maxRecDepth 20000 in
theorem px_f202_156 : px_fine 202 px_c202_156 := px_fine_add (n := 12) (t := px_c202_175) (by decide +kernel) rfl (px_f202_175)
set_option maxRecDepth 20000 in
theorem px_f202_154 : px_fine 202 px_c202_154 := px_fine_add (n := 1) (t := px_c202_156) (by decide +kernel) rfl (px_f202_156)
set_option maxRecDepth 20000 in
theorem px_f202_153 : px_fine 202 px_c202_153 := px_fine_add (n := 1) (t := px_c202_154) (by decide +kernel) rfl (px_f202_154)
set_option maxRecDepth 20000 in
theorem px_f202_128 : px_fine 202 px_c202_128 := px_fine_add (n := 15) (t := px_c202_153) (by decide +kernel) rfl (px_f202_153)
set_option maxRecDepth 20000 in
theorem px_f202_103 : px_fine 202 px_c202_103 := px_fine_add (n := 13) (t := px_c202_128) (by decide +kernel) rfl (px_f202_128)
set_option maxRecDepth 20000 in
theorem px_f202_94 : px_fine 202 px_c202_94 := px_fine_add (n := 6) (t := px_c202_103) (by decide +kernel) rfl (px_f202_103)
set_option maxRecDepth 20000 in
theorem px_f202_88 : px_fine 202 px_c202_88 := px_fine_add (n := 2) (t := px_c202_94) (by decide +kernel) rfl (px_f202_94)
set_option maxRecDepth 20000 in
theorem px_f202_84 : px_fine 202 px_c202_84 := px_fine_add (n := 2) (t := px_c202_88) (by decide +kernel) rfl (px_f202_88)
set_option maxRecDepth 20000 in
theorem px_f202_38 : px_fine 202 px_c202_38 := px_fine_add (n := 26) (t := px_c202_84) (by decide +kernel) rfl (px_f202_84)
set_option maxRecDepth 20000 in
theorem px_f202_14 : px_fine 202 px_c202_14 := px_fine_add (n := 13) (t := px_c202_38) (by decide +kernel) rfl (px_f202_38)
set_option maxRecDepth 20000 in
theorem px_f202_0 : px_fine 202 px_c202_0 := px_fine_add (n := 10) (t := px_c202_14) (by decide +kernel) rfl (px_f202_14)
set_option maxRecDepth 20000 in
theorem px_f203_41 : px_fine 203 px_c203_41 := px_fine_add (n := 2) (t := []) (by decide +kernel) rfl (px_fine_nil 203)
set_option maxRecDepth 20000 in
theorem px_f203_35 : px_fine 203 px_c203_35 := px_fine_add (n := 2) (t := px_c203_41) (by decide +kernel) rfl (px_f203_41)
set_option maxRecDepth 20000 in
theorem px_f203_5 : px_fine 203 px_c203_5 := px_fine_add (n := 17) (t := px_c203_35) (by decide +kernel) rfl (px_f203_35)
set_option maxRecDepth 20000 in
theorem px_f203_0 : px_fine 203 px_c203_0 := px_fine_add (n := 4) (t := px_c203_5) (by decide +kernel) rfl (px_f203_5)
set_option maxRecDepth 20000 in
theorem px_f204_82 : px_fine 204 px_c204_82 := px_fine_add (n := 1) (t := []) (by decide +kernel) rfl (px_fine_nil 204)
set_option maxRecDepth 20000 in
theorem px_f204_74 : px_fine 204 px_c204_74 := px_fine_add (n := 6) (t := px_c204_82) (by decide +kernel) rfl (px_f204_82)
set_option maxRecDepth 20000 in
theorem px_f204_58 : px_fine 204 px_c204_58 := px_fine_add (n := 10) (t := px_c204_74) (by decide +kernel) rfl (px_f204_74)
set_option maxRecDepth 20000 in
theorem px_f204_45 : px_fine 204 px_c204_45 := px_fine_add (n := 7) (t := px_c204_58) (by decide +kernel) rfl (px_f204_58)
set_option maxRecDepth 20000 in
theorem px_f204_43 : px_fine 204 px_c204_43 := px_fine_add (n := 2) (t := px_c204_45) (by decide +kernel) rfl (px_f204_45)
set_option maxRecDepth 20000 in
theorem px_f204_23 : px_fine 204 px_c204_23 := px_fine_add (n := 14) (t := px_c204_43) (by decide +kernel) rfl (px_f204_43)
set_option maxRecDepth 20000 in
theorem px_f204_22 : px_fine 204 px_c204_22 := px_fine_add (n := 1) (t := px_c204_23) (by decide +kernel) rfl (px_f204_23)
set_option maxRecDepth 20000 in
theorem px_f204_0 : px_fine 204 px_c204_0 := px_fine_add (n := 16) (t := px_c204_22) (by decide +kernel) rfl (px_f204_22)
set_option maxRecDepth 20000 in
theorem px_f205_29 : px_fine 205 px_c205_29 := px_fine_add (n := 1) (t := []) (by decide +kernel) rfl (px_fine_nil 205)
set_option maxRecDepth 20000 in
theorem px_f205_27 : px_fine 205 px_c205_27 := px_fine_add (n := 1) (t := px_c205_29) (by decide +kernel) rfl (px_f205_29)
set_option maxRecDepth 20000 in
theorem px_f205_0 : px_fine 205 px_c205_0 := px_fine_add (n := 16) (t := px_c205_27) (by decide +kernel) rfl (px_f205_27)
set_option maxRecDepth 20000 in
theorem px_f206_79 : px_fine 206 px_c206_79 := px_fine_add (n := 2) (t := []) (by decide +kernel) rfl (px_fine_nil 206)
set_option maxRecDepth 20000 in
theorem px_f206_73 : px_fine 206 px_c206_73 := px_fine_add (n := 2) (t := px_c206_79) (by decide +kernel) rfl (px_f206_79)
set_option maxRecDepth 20000 in
theorem px_f206_67 : px_fine 206 px_c206_67 := px_fine_add (n := 3) (t := px_c206_73) (by decide +kernel) rfl (px_f206_73)
set_option maxRecDepth 20000 in
theorem px_f206_66 : px_fine 206 px_c206_66 := px_fine_add (n := 1) (t := px_c206_67) (by decide +kernel) rfl (px_f206_67)
set_option maxRecDepth 20000 in
theorem px_f206_22 : px_fine 206 px_c206_22 := px_fine_add (n := 24) (t := px_c206_66) (by decide +kernel) rfl (px_f206_66)
set_option maxRecDepth 20000 in
theorem px_f206_0 : px_fine 206 px_c206_0 := px_fine_add (n := 13) (t := px_c206_22) (by decide +kernel) rfl (px_f206_22)
set_option maxRecDepth 20000 in
theorem px_f207_0 : px_fine 207 px_c207_0 := px_fine_add (n := 18) (t := []) (by decide +kernel) rfl (px_fine_nil 207)
set_option maxRecDepth 20000 in
theorem px_f208_66 : px_fine 208 px_c208_66 := px_fine_add (n := 7) (t := []) (by decide +kernel) rfl (px_fine_nil 208)
set_option maxRecDepth 20000 in
theorem px_f208_59 : px_fine 208 px_c208_59 := px_fine_add (n := 4) (t := px_c208_66) (by decide +kernel) rfl (px_f208_66)
set_option maxRecDepth 20000 in
theorem px_f208_42 : px_fine 208 px_c208_42 := px_fine_add (n := 8) (t := px_c208_59) (by decide +kernel) rfl (px_f208_59)
set_option maxRecDepth 20000 in
theorem px_f208_22 : px_fine 208 px_c208_22 := px_fine_add (n := 11) (t := px_c208_42) (by decide +kernel) rfl (px_f208_42)
set_option maxRecDepth 20000 in
theorem px_f208_16 : px_fine 208 px_c208_16 := px_fine_add (n := 4) (t := px_c208_22) (by decide +kernel) rfl (px_f208_22)
set_option maxRecDepth 20000 in
theorem px_f208_0 : px_fine 208 px_c208_0 := px_fine_add (n := 8) (t := px_c208_16) (by decide +kernel) rfl (px_f208_16)
set_option maxRecDepth 20000 in
theorem px_f209_178 : px_fine 209 px_c209_178 := px_fine_add (n := 2) (t := []) (by decide +kernel) rfl (px_fine_nil 209)
set_option maxRecDepth 20000 in
theorem px_f209_172 : px_fine 209 px_c209_172 := px_fine_add (n := 2) (t := px_c209_178) (by decide +kernel) rfl (px_f209_178)
set_option maxRecDepth 20000 in
theorem px_f209_164 : px_fine 209 px_c209_164 := px_fine_add (n := 5) (t := px_c209_172) (by decide +kernel) rfl (px_f209_172)
set_option maxRecDepth 20000 in
theorem px_f209_163 : px_fine 209 px_c209_163 := px_fine_add (n := 1) (t := px_c209_164) (by decide +kernel) rfl (px_f209_164)
set_option maxRecDepth 20000 in
theorem px_f209_96 : px_fine 209 px_c209_96 := px_fine_add (n := 40) (t := px_c209_163) (by decide +kernel) rfl (px_f209_163)
set_option maxRecDepth 20000 in
theorem px_f209_66 : px_fine 209 px_c209_66 := px_fine_add (n := 19) (t := px_c209_96) (by decide +kernel) rfl (px_f209_96)
set_option maxRecDepth 20000 in
theorem px_f209_59 : px_fine 209 px_c209_59 := px_fine_add (n := 4) (t := px_c209_66) (by decide +kernel) rfl (px_f209_66)
set_option maxRecDepth 20000 in
theorem px_f209_42 : px_fine 209 px_c209_42 := px_fine_add (n := 8) (t := px_c209_59) (by decide +kernel) rfl (px_f209_59)
set_option maxRecDepth 20000 in
theorem px_f209_22 : px_fine 209 px_c209_22 := px_fine_add (n := 11) (t := px_c209_42) (by decide +kernel) rfl (px_f209_42)
set_option maxRecDepth 20000 in
theorem px_f209_16 : px_fine 209 px_c209_16 := px_fine_add (n := 4) (t := px_c209_22) (by decide +kernel) rfl (px_f209_22)
set_option maxRecDepth 20000 in
theorem px_f209_0 : px_fine 209 px_c209_0 := px_fine_add (n := 8) (t := px_c209_16) (by decide +kernel) rfl (px_f209_16)
set_option maxRecDepth 20000 in
theorem px_f210_28 : px_fine 210 px_c210_28 := px_fine_add (n := 2) (t := []) (by decide +kernel) rfl (px_fine_nil 210)
set_option maxRecDepth 20000 in
theorem px_f210_22 : px_fine 210 px_c210_22 := px_fine_add (n := 2) (t := px_c210_28) (by decide +kernel) rfl (px_f210_28)
set_option maxRecDepth 20000 in
theorem px_f210_2 : px_fine 210 px_c210_2 := px_fine_add (n := 12) (t := px_c210_22) (by decide +kernel) rfl (px_f210_22)
set_option maxRecDepth 20000 in
theorem px_f210_0 : px_fine 210 px_c210_0 := px_fine_add (n := 2) (t := px_c210_2) (by decide +kernel) rfl (px_f210_2)
set_option maxRecDepth 20000 in
theorem px_f211_252 : px_fine 211 px_c211_252 := px_fine_add (n := 2) (t := []) (by decide +kernel) rfl (px_fine_nil 211)
set_option maxRecDepth 20000 in
theorem px_f211_246 : px_fine 211 px_c211_246 := px_fine_add (n := 2) (t := px_c211_252) (by decide +kernel) rfl (px_f211_252)
set_option maxRecDepth 20000 in
theorem px_f211_233 : px_fine 211 px_c211_233 := px_fine_add (n := 8) (t := px_c211_246) (by decide +kernel) rfl (px_f211_246)
set_option maxRecDepth 20000 in
theorem px_f211_188 : px_fine 211 px_c211_188 := px_fine_add (n := 23) (t := px_c211_233) (by decide +kernel) rfl (px_f211_233)
set_option maxRecDepth 20000 in
theorem px_f211_185 : px_fine 211 px_c211_185 := px_fine_add (n := 2) (t := px_c211_188) (by decide +kernel) rfl (px_f211_188)
set_option maxRecDepth 20000 in
theorem px_f211_158 : px_fine 211 px_c211_158 := px_fine_add (n := 17) (t := px_c211_185) (by decide +kernel) rfl (px_f211_185)
set_option maxRecDepth 20000 in
theorem px_f211_152 : px_fine 211 px_c211_152 := px_fine_add (n := 2) (t := px_c211_158) (by decide +kernel) rfl (px_f211_158)
set_option maxRecDepth 20000 in
theorem px_f211_144 : px_fine 211 px_c211_144 := px_fine_add (n := 5) (t := px_c211_152) (by decide +kernel) rfl (px_f211_152)
set_option maxRecDepth 20000 in
theorem px_f211_115 : px_fine 211 px_c211_115 := px_fine_add (n := 14) (t := px_c211_144) (by decide +kernel) rfl (px_f211_144)
set_option maxRecDepth 20000 in
theorem px_f211_112 : px_fine 211 px_c211_112 := px_fine_add (n := 2) (t := px_c211_115) (by decide +kernel) rfl (px_f211_115)
set_option maxRecDepth 20000 in
theorem px_f211_106 : px_fine 211 px_c211_106 := px_fine_add (n := 2) (t := px_c211_112) (by decide +kernel) rfl (px_f211_112)
set_option maxRecDepth 20000 in
theorem px_f211_105 : px_fine 211 px_c211_105 := px_fine_add (n := 1) (t := px_c211_106) (by decide +kernel) rfl (px_f211_106)
set_option maxRecDepth 20000 in
theorem px_f211_104 : px_fine 211 px_c211_104 := px_fine_add (n := 1) (t := px_c211_105) (by decide +kernel) rfl (px_f211_105)
set_option maxRecDepth 20000 in
theorem px_f211_83 : px_fine 211 px_c211_83 := px_fine_add (n := 11) (t := px_c211_104) (by decide +kernel) rfl (px_f211_104)
set_option maxRecDepth 20000 in
theorem px_f211_80 : px_fine 211 px_c211_80 := px_fine_add (n := 2) (t := px_c211_83) (by decide +kernel) rfl (px_f211_83)
set_option maxRecDepth 20000 in
theorem px_f211_59 : px_fine 211 px_c211_59 := px_fine_add (n := 12) (t := px_c211_80) (by decide +kernel) rfl (px_f211_80)
set_option maxRecDepth 20000 in
theorem px_f211_37 : px_fine 211 px_c211_37 := px_fine_add (n := 12) (t := px_c211_59) (by decide +kernel) rfl (px_f211_59)
set_option maxRecDepth 20000 in
theorem px_f211_19 : px_fine 211 px_c211_19 := px_fine_add (n := 8) (t := px_c211_37) (by decide +kernel) rfl (px_f211_37)
set_option maxRecDepth 20000 in
theorem px_f211_0 : px_fine 211 px_c211_0 := px_fine_add (n := 14) (t := px_c211_19) (by decide +kernel) rfl (px_f211_19)
set_option maxRecDepth 20000 in
theorem px_f212_40 : px_fine 212 px_c212_40 := px_fine_add (n := 1) (t := []) (by decide +kernel) rfl (px_fine_nil 212)
set_option maxRecDepth 20000 in
theorem px_f212_3 : px_fine 212 px_c212_3 := px_fine_add (n := 20) (t := px_c212_40) (by decide +kernel) rfl (px_f212_40)
set_option maxRecDepth 20000 in
theorem px_f212_0 : px_fine 212 px_c212_0 := px_fine_add (n := 2) (t := px_c212_3) (by decide +kernel) rfl (px_f212_3)
set_option maxRecDepth 20000 in
theorem px_f213_43 : px_fine 213 px_c213_43 := px_fine_add (n := 19) (t := []) (by decide +kernel) rfl (px_fine_nil 213)
set_option maxRecDepth 20000 in
theorem px_f213_36 : px_fine 213 px_c213_36 := px_fine_add (n := 4) (t := px_c213_43) (by decide +kernel) rfl (px_f213_43)
set_option maxRecDepth 20000 in
theorem px_f213_20 : px_fine 213 px_c213_20 := px_fine_add (n := 8) (t := px_c213_36) (by decide +kernel) rfl (px_f213_36)
set_option maxRecDepth 20000 in
theorem px_f213_0 : px_fine 213 px_c213_0 := px_fine_add (n := 11) (t := px_c213_20) (by decide +kernel) rfl (px_f213_20)
set_option maxRecDepth 20000 in
theorem px_f214_43 : px_fine 214 px_c214_43 := px_fine_add (n := 22) (t := []) (by decide +kernel) rfl (px_fine_nil 214)
set_option maxRecDepth 20000 in
theorem px_f214_36 : px_fine 214 px_c214_36 := px_fine_add (n := 4) (t := px_c214_43) (by decide +kernel) rfl (px_f214_43)
set_option maxRecDepth 20000 in
theorem px_f214_20 : px_fine 214 px_c214_20 := px_fine_add (n := 8) (t := px_c214_36) (by decide +kernel) rfl (px_f214_36)
set_option maxRecDepth 20000 in
theorem px_f214_0 : px_fine 214 px_c214_0 := px_fine_add (n := 11) (t := px_c214_20) (by decide +kernel) rfl (px_f214_20)
set_option maxRecDepth 20000 in
theorem px_f215_47 : px_fine 215 px_c215_47 := px_fine_add (n := 2) (t := []) (by decide +kernel) rfl (px_fine_nil 215)
set_option maxRecDepth 20000 in
theorem px_f215_41 : px_fine 215 px_c215_41 := px_fine_add (n := 2) (t := px_c215_47) (by decide +kernel) rfl (px_f215_47)
set_option maxRecDepth 20000 in
theorem px_f215_5 : px_fine 215 px_c215_5 := px_fine_add (n := 23) (t := px_c215_41) (by decide +kernel) rfl (px_f215_41)
set_option maxRecDepth 20000 in
theorem px_f215_0 : px_fine 215 px_c215_0 := px_fine_add (n := 4) (t := px_c215_5) (by decide +kernel) rfl (px_f215_5)
set_option maxRecDepth 20000 in
theorem px_f216_30 : px_fine 216 px_c216_30 := px_fine_add (n := 1) (t := []) (by decide +kernel) rfl (px_fine_nil 216)
set_option maxRecDepth 20000 in
theorem px_f216_25 : px_fine 216 px_c216_25 := px_fine_add (n := 3) (t := px_c216_30) (by decide +kernel) rfl (px_f216_30)
set_option maxRecDepth 20000 in
theorem px_f216_0 : px_fine 216 px_c216_0 := px_fine_add (n := 13) (t := px_c216_25) (by decide +kernel) rfl (px_f216_25)
set_option maxRecDepth 20000 in
theorem px_f217_69 : px_fine 217 px_c217_69 := px_fine_add (n := 1) (t := []) (by decide +kernel) rfl (px_fine_nil 217)
set_option maxRecDepth 20000 in
theorem px_f217_51 : px_fine 217 px_c217_51 := px_fine_add (n := 10) (t := px_c217_69) (by decide +kernel) rfl (px_f217_69)
set_option maxRecDepth 20000 in
theorem px_f217_15 : px_fine 217 px_c217_15 := px_fine_add (n := 20) (t := px_c217_51) (by decide +kernel) rfl (px_f217_51)
set_option maxRecDepth 20000 in
theorem px_f217_2 : px_fine 217 px_c217_2 := px_fine_add (n := 8) (t := px_c217_15) (by decide +kernel) rfl (px_f217_15)
set_option maxRecDepth 20000 in
theorem px_f217_0 : px_fine 217 px_c217_0 := px_fine_add (n := 2) (t := px_c217_2) (by decide +kernel) rfl (px_f217_2)
set_option maxRecDepth 20000 in
theorem px_f218_75 : px_fine 218 px_c218_75 := px_fine_add (n := 3) (t := []) (by decide +kernel) rfl (px_fine_nil 218)
set_option maxRecDepth 20000 in
theorem px_f218_69 : px_fine 218 px_c218_69 := px_fine_add (n := 2) (t := px_c218_75) (by decide +kernel) rfl (px_f218_75)
set_option maxRecDepth 20000 in
theorem px_f218_63 : px_fine 218 px_c218_63 := px_fine_add (n := 2) (t := px_c218_69) (by decide +kernel) rfl (px_f218_69)
set_option maxRecDepth 20000 in
theorem px_f218_26 : px_fine 218 px_c218_26 := px_fine_add (n := 26) (t := px_c218_63) (by decide +kernel) rfl (px_f218_63)
set_option maxRecDepth 20000 in
theorem px_f218_2 : px_fine 218 px_c218_2 := px_fine_add (n := 16) (t := px_c218_26) (by decide +kernel) rfl (px_f218_26)
set_option maxRecDepth 20000 in
theorem px_f218_0 : px_fine 218 px_c218_0 := px_fine_add (n := 2) (t := px_c218_2) (by decide +kernel) rfl (px_f218_2)
set_option maxRecDepth 20000 in
theorem px_f219_51 : px_fine 219 px_c219_51 := px_fine_add (n := 2) (t := []) (by decide +kernel) rfl (px_fine_nil 219)
set_option maxRecDepth 20000 in
theorem px_f219_45 : px_fine 219 px_c219_45 := px_fine_add (n := 2) (t := px_c219_51) (by decide +kernel) rfl (px_f219_51)
set_option maxRecDepth 20000 in
theorem px_f219_43 : px_fine 219 px_c219_43 := px_fine_add (n := 2) (t := px_c219_45) (by decide +kernel) rfl (px_f219_45)
set_option maxRecDepth 20000 in
theorem px_f219_21 : px_fine 219 px_c219_21 := px_fine_add (n := 16) (t := px_c219_43) (by decide +kernel) rfl (px_f219_43)
set_option maxRecDepth 20000 in
theorem px_f219_2 : px_fine 219 px_c219_2 := px_fine_add (n := 11) (t := px_c219_21) (by decide +kernel) rfl (px_f219_21)
set_option maxRecDepth 20000 in
theorem px_f219_0 : px_fine 219 px_c219_0 := px_fine_add (n := 2) (t := px_c219_2) (by decide +kernel) rfl (px_f219_2)
set_option maxRecDepth 20000 in
theorem px_f220_155 : px_fine 220 px_c220_155 := px_fine_add (n := 2) (t := []) (by decide +kernel) rfl (px_fine_nil 220)
set_option maxRecDepth 20000 in
theorem px_f220_149 : px_fine 220 px_c220_149 := px_fine_add (n := 2) (t := px_c220_155) (by decide +kernel) rfl (px_f220_155)
set_option maxRecDepth 20000 in
theorem px_f220_145 : px_fine 220 px_c220_145 := px_fine_add (n := 2) (t := px_c220_149) (by decide +kernel) rfl (px_f220_149)
set_option maxRecDepth 20000 in
theorem px_f220_119 : px_fine 220 px_c220_119 := px_fine_add (n := 12) (t := px_c220_145) (by decide +kernel) rfl (px_f220_145)
set_option maxRecDepth 20000 in
theorem px_f220_109 : px_fine 220 px_c220_109 := px_fine_add (n := 4) (t := px_c220_119) (by decide +kernel) rfl (px_f220_119)
set_option maxRecDepth 20000 in
theorem px_f220_108 : px_fine 220 px_c220_108 := px_fine_add (n := 1) (t := px_c220_109) (by decide +kernel) rfl (px_f220_109)
set_option maxRecDepth 20000 in
theorem px_f220_97 : px_fine 220 px_c220_97 := px_fine_add (n := 5) (t := px_c220_108) (by decide +kernel) rfl (px_f220_108)
set_option maxRecDepth 20000 in
theorem px_f220_93 : px_fine 220 px_c220_93 := px_fine_add (n := 2) (t := px_c220_97) (by decide +kernel) rfl (px_f220_97)
set_option maxRecDepth 20000 in
theorem px_f220_89 : px_fine 220 px_c220_89 := px_fine_add (n := 2) (t := px_c220_93) (by decide +kernel) rfl (px_f220_93)
set_option maxRecDepth 20000 in
theorem px_f220_12 : px_fine 220 px_c220_12 := px_fine_add (n := 39) (t := px_c220_89) (by decide +kernel) rfl (px_f220_89)
set_option maxRecDepth 20000 in
theorem px_f220_0 : px_fine 220 px_c220_0 := px_fine_add (n := 8) (t := px_c220_12) (by decide +kernel) rfl (px_f220_12)
set_option maxRecDepth 20000 in
theorem px_f221_55 : px_fine 221 px_c221_55 := px_fine_add (n := 1) (t := []) (by decide +kernel) rfl (px_fine_nil 221)
set_option maxRecDepth 20000 in
theorem px_f221_53 : px_fine 221 px_c221_53 := px_fine_add (n := 1) (t := px_c221_55) (by decide +kernel) rfl (px_f221_55)
set_option maxRecDepth 20000 in
theorem px_f221_29 : px_fine 221 px_c221_29 := px_fine_add (n := 13) (t := px_c221_53) (by decide +kernel) rfl (px_f221_53)
set_option maxRecDepth 20000 in
theorem px_f221_14 : px_fine 221 px_c221_14 := px_fine_add (n := 8) (t := px_c221_29) (by decide +kernel) rfl (px_f221_29)
set_option maxRecDepth 20000 in
theorem px_f221_0 : px_fine 221 px_c221_0 := px_fine_add (n := 8) (t := px_c221_14) (by decide +kernel) rfl (px_f221_14)
set_option maxRecDepth 20000 in
theorem px_f222_0 : px_fine 222 px_c222_0 := px_fine_add (n := 6) (t := []) (by decide +kernel) rfl (px_fine_nil 222)
set_option maxRecDepth 20000 in
theorem px_f223_0 : px_fine 223 px_c223_0 := px_fine_add (n := 6) (t := []) (by decide +kernel) rfl (px_fine_nil 223)
set_option maxRecDepth 20000 in
theorem px_f224_0 : px_fine 224 px_c224_0 := px_fine_add (n := 6) (t := []) (by decide +kernel) rfl (px_fine_nil 224)
set_option maxRecDepth 20000 in
theorem px_f225_217 : px_fine 225 px_c225_217 := px_fine_add (n := 2) (t := []) (by decide +kernel) rfl (px_fine_nil 225)
set_option maxRecDepth 20000 in
theorem px_f225_211 : px_fine 225 px_c225_211 := px_fine_add (n := 2) (t := px_c225_217) (by decide +kernel) rfl (px_f225_217)
set_option maxRecDepth 20000 in
theorem px_f225_210 : px_fine 225 px_c225_210 := px_fine_add (n := 1) (t := px_c225_211) (by decide +kernel) rfl (px_f225_211)
set_option maxRecDepth 20000 in
theorem px_f225_209 : px_fine 225 px_c225_209 := px_fine_add (n := 1) (t := px_c225_210) (by decide +kernel) rfl (px_f225_210)
set_option maxRecDepth 20000 in
theorem px_f225_198 : px_fine 225 px_c225_198 := px_fine_add (n := 5) (t := px_c225_209) (by decide +kernel) rfl (px_f225_209)
set_option maxRecDepth 20000 in
theorem px_f225_165 : px_fine 225 px_c225_165 := px_fine_add (n := 19) (t := px_c225_198) (by decide +kernel) rfl (px_f225_198)
set_option maxRecDepth 20000 in
theorem px_f225_157 : px_fine 225 px_c225_157 := px_fine_add (n := 5) (t := px_c225_165) (by decide +kernel) rfl (px_f225_165)
set_option maxRecDepth 20000 in
theorem px_f225_151 : px_fine 225 px_c225_151 := px_fine_add (n := 2) (t := px_c225_157) (by decide +kernel) rfl (px_f225_157)
set_option maxRecDepth 20000 in
theorem px_f225_147 : px_fine 225 px_c225_147 := px_fine_add (n := 2) (t := px_c225_151) (by decide +kernel) rfl (px_f225_151)
set_option maxRecDepth 20000 in
theorem px_f225_93 : px_fine 225 px_c225_93 := px_fine_add (n := 30) (t := px_c225_147) (by decide +kernel) rfl (px_f225_147)
set_option maxRecDepth 20000 in
theorem px_f225_78 : px_fine 225 px_c225_78 := px_fine_add (n := 8) (t := px_c225_93) (by decide +kernel) rfl (px_f225_93)
set_option maxRecDepth 20000 in
theorem px_f225_63 : px_fine 225 px_c225_63 := px_fine_add (n := 9) (t := px_c225_78) (by decide +kernel) rfl (px_f225_78)
set_option maxRecDepth 20000 in
theorem px_f225_40 : px_fine 225 px_c225_40 := px_fine_add (n := 11) (t := px_c225_63) (by decide +kernel) rfl (px_f225_63)
set_option maxRecDepth 20000 in
theorem px_f225_29 : px_fine 225 px_c225_29 := px_fine_add (n := 8) (t := px_c225_40) (by decide +kernel) rfl (px_f225_40)
set_option maxRecDepth 20000 in
theorem px_f225_14 : px_fine 225 px_c225_14 := px_fine_add (n := 8) (t := px_c225_29) (by decide +kernel) rfl (px_f225_29)
set_option maxRecDepth 20000 in
theorem px_f225_0 : px_fine 225 px_c225_0 := px_fine_add (n := 8) (t := px_c225_14) (by decide +kernel) rfl (px_f225_14)
set_option maxRecDepth 20000 in
theorem px_f226_101 : px_fine 226 px_c226_101 := px_fine_add (n := 1) (t := []) (by decide +kernel) rfl (px_fine_nil 226)
set_option maxRecDepth 20000 in
theorem px_f226_100 : px_fine 226 px_c226_100 := px_fine_add (n := 1) (t := px_c226_101) (by decide +kernel) rfl (px_f226_101)
set_option maxRecDepth 20000 in
theorem px_f226_86 : px_fine 226 px_c226_86 := px_fine_add (n := 7) (t := px_c226_100) (by decide +kernel) rfl (px_f226_100)
set_option maxRecDepth 20000 in
theorem px_f226_80 : px_fine 226 px_c226_80 := px_fine_add (n := 2) (t := px_c226_86) (by decide +kernel) rfl (px_f226_86)
set_option maxRecDepth 20000 in
theorem px_f226_74 : px_fine 226 px_c226_74 := px_fine_add (n := 4) (t := px_c226_80) (by decide +kernel) rfl (px_f226_80)
set_option maxRecDepth 20000 in
theorem px_f226_50 : px_fine 226 px_c226_50 := px_fine_add (n := 12) (t := px_c226_74) (by decide +kernel) rfl (px_f226_74)
set_option maxRecDepth 20000 in
theorem px_f226_22 : px_fine 226 px_c226_22 := px_fine_add (n := 14) (t := px_c226_50) (by decide +kernel) rfl (px_f226_50)
set_option maxRecDepth 20000 in
theorem px_f226_15 : px_fine 226 px_c226_15 := px_fine_add (n := 6) (t := px_c226_22) (by decide +kernel) rfl (px_f226_22)
set_option maxRecDepth 20000 in
theorem px_f226_0 : px_fine 226 px_c226_0 := px_fine_add (n := 8) (t := px_c226_15) (by decide +kernel) rfl (px_f226_15)
set_option maxRecDepth 20000 in
theorem px_f227_67 : px_fine 227 px_c227_67 := px_fine_add (n := 2) (t := []) (by decide +kernel) rfl (px_fine_nil 227)
set_option maxRecDepth 20000 in
theorem px_f227_61 : px_fine 227 px_c227_61 := px_fine_add (n := 2) (t := px_c227_67) (by decide +kernel) rfl (px_f227_67)
set_option maxRecDepth 20000 in
theorem px_f227_18 : px_fine 227 px_c227_18 := px_fine_add (n := 28) (t := px_c227_61) (by decide +kernel) rfl (px_f227_61)
set_option maxRecDepth 20000 in
theorem px_f227_14 : px_fine 227 px_c227_14 := px_fine_add (n := 4) (t := px_c227_18) (by decide +kernel) rfl (px_f227_18)
set_option maxRecDepth 20000 in
theorem px_f227_0 : px_fine 227 px_c227_0 := px_fine_add (n := 8) (t := px_c227_14) (by decide +kernel) rfl (px_f227_14)
set_option maxRecDepth 20000 in
theorem px_f228_111 : px_fine 228 px_c228_111 := px_fine_add (n := 2) (t := []) (by decide +kernel) rfl (px_fine_nil 228)
set_option maxRecDepth 20000 in
theorem px_f228_105 : px_fine 228 px_c228_105 := px_fine_add (n := 2) (t := px_c228_111) (by decide +kernel) rfl (px_f228_111)
set_option maxRecDepth 20000 in
theorem px_f228_100 : px_fine 228 px_c228_100 := px_fine_add (n := 4) (t := px_c228_105) (by decide +kernel) rfl (px_f228_105)
set_option maxRecDepth 20000 in
theorem px_f228_80 : px_fine 228 px_c228_80 := px_fine_add (n := 10) (t := px_c228_100) (by decide +kernel) rfl (px_f228_100)
set_option maxRecDepth 20000 in
theorem px_f228_74 : px_fine 228 px_c228_74 := px_fine_add (n := 2) (t := px_c228_80) (by decide +kernel) rfl (px_f228_80)
set_option maxRecDepth 20000 in
theorem px_f228_65 : px_fine 228 px_c228_65 := px_fine_add (n := 5) (t := px_c228_74) (by decide +kernel) rfl (px_f228_74)
set_option maxRecDepth 20000 in
theorem px_f228_27 : px_fine 228 px_c228_27 := px_fine_add (n := 19) (t := px_c228_65) (by decide +kernel) rfl (px_f228_65)
set_option maxRecDepth 20000 in
theorem px_f228_6 : px_fine 228 px_c228_6 := px_fine_add (n := 14) (t := px_c228_27) (by decide +kernel) rfl (px_f228_27)
set_option maxRecDepth 20000 in
theorem px_f228_0 : px_fine 228 px_c228_0 := px_fine_add (n := 6) (t := px_c228_6) (by decide +kernel) rfl (px_f228_6)
set_option maxRecDepth 20000 in
theorem px_f229_170 : px_fine 229 px_c229_170 := px_fine_add (n := 2) (t := []) (by decide +kernel) rfl (px_fine_nil 229)
set_option maxRecDepth 20000 in
theorem px_f229_164 : px_fine 229 px_c229_164 := px_fine_add (n := 2) (t := px_c229_170) (by decide +kernel) rfl (px_f229_170)
set_option maxRecDepth 20000 in
theorem px_f229_156 : px_fine 229 px_c229_156 := px_fine_add (n := 4) (t := px_c229_164) (by decide +kernel) rfl (px_f229_164)
set_option maxRecDepth 20000 in
theorem px_f229_141 : px_fine 229 px_c229_141 := px_fine_add (n := 6) (t := px_c229_156) (by decide +kernel) rfl (px_f229_156)
set_option maxRecDepth 20000 in
theorem px_f229_140 : px_fine 229 px_c229_140 := px_fine_add (n := 1) (t := px_c229_141) (by decide +kernel) rfl (px_f229_141)
set_option maxRecDepth 20000 in
theorem px_f229_112 : px_fine 229 px_c229_112 := px_fine_add (n := 17) (t := px_c229_140) (by decide +kernel) rfl (px_f229_140)
set_option maxRecDepth 20000 in
theorem px_f229_90 : px_fine 229 px_c229_90 := px_fine_add (n := 11) (t := px_c229_112) (by decide +kernel) rfl (px_f229_112)
set_option maxRecDepth 20000 in
theorem px_f229_57 : px_fine 229 px_c229_57 := px_fine_add (n := 21) (t := px_c229_90) (by decide +kernel) rfl (px_f229_90)
set_option maxRecDepth 20000 in
theorem px_f229_42 : px_fine 229 px_c229_42 := px_fine_add (n := 8) (t := px_c229_57) (by decide +kernel) rfl (px_f229_57)
set_option maxRecDepth 20000 in
theorem px_f229_22 : px_fine 229 px_c229_22 := px_fine_add (n := 11) (t := px_c229_42) (by decide +kernel) rfl (px_f229_42)
set_option maxRecDepth 20000 in
theorem px_f229_16 : px_fine 229 px_c229_16 := px_fine_add (n := 4) (t := px_c229_22) (by decide +kernel) rfl (px_f229_22)
set_option maxRecDepth 20000 in
theorem px_f229_0 : px_fine 229 px_c229_0 := px_fine_add (n := 8) (t := px_c229_16) (by decide +kernel) rfl (px_f229_16)
set_option maxRecDepth 20000 in
theorem px_f230_104 : px_fine 230 px_c230_104 := px_fine_add (n := 2) (t := []) (by decide +kernel) rfl (px_fine_nil 230)
set_option maxRecDepth 20000 in
theorem px_f230_98 : px_fine 230 px_c230_98 := px_fine_add (n := 2) (t := px_c230_104) (by decide +kernel) rfl (px_f230_104)
set_option maxRecDepth 20000 in
theorem px_f230_49 : px_fine 230 px_c230_49 := px_fine_add (n := 26) (t := px_c230_98) (by decide +kernel) rfl (px_f230_98)
set_option maxRecDepth 20000 in
theorem px_f230_44 : px_fine 230 px_c230_44 := px_fine_add (n := 4) (t := px_c230_49) (by decide +kernel) rfl (px_f230_49)
set_option maxRecDepth 20000 in
theorem px_f230_33 : px_fine 230 px_c230_33 := px_fine_add (n := 7) (t := px_c230_44) (by decide +kernel) rfl (px_f230_44)
set_option maxRecDepth 20000 in
theorem px_f230_18 : px_fine 230 px_c230_18 := px_fine_add (n := 8) (t := px_c230_33) (by decide +kernel) rfl (px_f230_33)
set_option maxRecDepth 20000 in
theorem px_f230_12 : px_fine 230 px_c230_12 := px_fine_add (n := 4) (t := px_c230_18) (by decide +kernel) rfl (px_f230_18)
set_option maxRecDepth 20000 in
theorem px_f230_0 : px_fine 230 px_c230_0 := px_fine_add (n := 6) (t := px_c230_12) (by decide +kernel) rfl (px_f230_12)
set_option maxRecDepth 20000 in
theorem px_f231_50 : px_fine 231 px_c231_50 := px_fine_add (n := 2) (t := []) (by decide +kernel) rfl (px_fine_nil 231)
set_option maxRecDepth 20000 in
theorem px_f231_42 : px_fine 231 px_c231_42 := px_fine_add (n := 4) (t := px_c231_50) (by decide +kernel) rfl (px_f231_50)
set_option maxRecDepth 20000 in
theorem px_f231_20 : px_fine 231 px_c231_20 := px_fine_add (n := 14) (t := px_c231_42) (by decide +kernel) rfl (px_f231_42)
set_option maxRecDepth 20000 in
theorem px_f231_15 : px_fine 231 px_c231_15 := px_fine_add (n := 4) (t := px_c231_20) (by decide +kernel) rfl (px_f231_20)
set_option maxRecDepth 20000 in
theorem px_f231_0 : px_fine 231 px_c231_0 := px_fine_add (n := 8) (t := px_c231_15) (by decide +kernel) rfl (px_f231_15)
set_option maxRecDepth 20000 in
theorem px_f232_161 : px_fine 232 px_c232_161 := px_fine_add (n := 1) (t := []) (by decide +kernel) rfl (px_fine_nil 232)
set_option maxRecDepth 20000 in
theorem px_f232_151 : px_fine 232 px_c232_151 := px_fine_add (n := 7) (t := px_c232_161) (by decide +kernel) rfl (px_f232_161)
set_option maxRecDepth 20000 in
theorem px_f232_141 : px_fine 232 px_c232_141 := px_fine_add (n := 5) (t := px_c232_151) (by decide +kernel) rfl (px_f232_151)
set_option maxRecDepth 20000 in
theorem px_f232_135 : px_fine 232 px_c232_135 := px_fine_add (n := 4) (t := px_c232_141) (by decide +kernel) rfl (px_f232_141)
set_option maxRecDepth 20000 in
theorem px_f232_129 : px_fine 232 px_c232_129 := px_fine_add (n := 2) (t := px_c232_135) (by decide +kernel) rfl (px_f232_135)
set_option maxRecDepth 20000 in
theorem px_f232_127 : px_fine 232 px_c232_127 := px_fine_add (n := 1) (t := px_c232_129) (by decide +kernel) rfl (px_f232_129)
set_option maxRecDepth 20000 in
theorem px_f232_125 : px_fine 232 px_c232_125 := px_fine_add (n := 1) (t := px_c232_127) (by decide +kernel) rfl (px_f232_127)
set_option maxRecDepth 20000 in
theorem px_f232_120 : px_fine 232 px_c232_120 := px_fine_add (n := 2) (t := px_c232_125) (by decide +kernel) rfl (px_f232_125)
set_option maxRecDepth 20000 in
theorem px_f232_53 : px_fine 232 px_c232_53 := px_fine_add (n := 40) (t := px_c232_120) (by decide +kernel) rfl (px_f232_120)
set_option maxRecDepth 20000 in
theorem px_f232_30 : px_fine 232 px_c232_30 := px_fine_add (n := 11) (t := px_c232_53) (by decide +kernel) rfl (px_f232_53)
set_option maxRecDepth 20000 in
theorem px_f232_19 : px_fine 232 px_c232_19 := px_fine_add (n := 8) (t := px_c232_30) (by decide +kernel) rfl (px_f232_30)
set_option maxRecDepth 20000 in
theorem px_f232_12 : px_fine 232 px_c232_12 := px_fine_add (n := 4) (t := px_c232_19) (by decide +kernel) rfl (px_f232_19)
set_option maxRecDepth 20000 in
theorem px_f232_0 : px_fine 232 px_c232_0 := px_fine_add (n := 6) (t := px_c232_12) (by decide +kernel) rfl (px_f232_12)
set_option maxRecDepth 20000 in
theorem px_f233_70 : px_fine 233 px_c233_70 := px_fine_add (n := 2) (t := []) (by decide +kernel) rfl (px_fine_nil 233)
set_option maxRecDepth 20000 in
theorem px_f233_64 : px_fine 233 px_c233_64 := px_fine_add (n := 2) (t := px_c233_70) (by decide +kernel) rfl (px_f233_70)
set_option maxRecDepth 20000 in
theorem px_f233_58 : px_fine 233 px_c233_58 := px_fine_add (n := 2) (t := px_c233_64) (by decide +kernel) rfl (px_f233_64)
set_option maxRecDepth 20000 in
theorem px_f233_57 : px_fine 233 px_c233_57 := px_fine_add (n := 1) (t := px_c233_58) (by decide +kernel) rfl (px_f233_58)
set_option maxRecDepth 20000 in
theorem px_f233_27 : px_fine 233 px_c233_27 := px_fine_add (n := 17) (t := px_c233_57) (by decide +kernel) rfl (px_f233_57)
set_option maxRecDepth 20000 in
theorem px_f233_22 : px_fine 233 px_c233_22 := px_fine_add (n := 4) (t := px_c233_27) (by decide +kernel) rfl (px_f233_27)
set_option maxRecDepth 20000 in
theorem px_f233_16 : px_fine 233 px_c233_16 := px_fine_add (n := 4) (t := px_c233_22) (by decide +kernel) rfl (px_f233_22)
set_option maxRecDepth 20000 in
theorem px_f233_0 : px_fine 233 px_c233_0 := px_fine_add (n := 8) (t := px_c233_16) (by decide +kernel) rfl (px_f233_16)
set_option maxRecDepth 20000 in
theorem px_f234_65 : px_fine 234 px_c234_65 := px_fine_add (n := 5) (t := []) (by decide +kernel) rfl (px_fine_nil 234)
set_option maxRecDepth 20000 in
theorem px_f234_51 : px_fine 234 px_c234_51 := px_fine_add (n := 8) (t := px_c234_65) (by decide +kernel) rfl (px_f234_65)
set_option maxRecDepth 20000 in
theorem px_f234_50 : px_fine 234 px_c234_50 := px_fine_add (n := 1) (t := px_c234_51) (by decide +kernel) rfl (px_f234_51)
set_option maxRecDepth 20000 in
theorem px_f234_24 : px_fine 234 px_c234_24 := px_fine_add (n := 16) (t := px_c234_50) (by decide +kernel) rfl (px_f234_50)
set_option maxRecDepth 20000 in
theorem px_f234_22 : px_fine 234 px_c234_22 := px_fine_add (n := 2) (t := px_c234_24) (by decide +kernel) rfl (px_f234_24)
set_option maxRecDepth 20000 in
theorem px_f234_16 : px_fine 234 px_c234_16 := px_fine_add (n := 4) (t := px_c234_22) (by decide +kernel) rfl (px_f234_22)
set_option maxRecDepth 20000 in
theorem px_f234_0 : px_fine 234 px_c234_0 := px_fine_add (n := 8) (t := px_c234_16) (by decide +kernel) rfl (px_f234_16)
set_option maxRecDepth 20000 in
theorem px_f235_146 : px_fine 235 px_c235_146 := px_fine_add (n := 2) (t := []) (by decide +kernel) rfl (px_fine_nil 235)
set_option maxRecDepth 20000 in
theorem px_f235_140 : px_fine 235 px_c235_140 := px_fine_add (n := 2) (t := px_c235_146) (by decide +kernel) rfl (px_f235_146)
set_option maxRecDepth 20000 in
theorem px_f235_121 : px_fine 235 px_c235_121 := px_fine_add (n := 11) (t := px_c235_140) (by decide +kernel) rfl (px_f235_140)
set_option maxRecDepth 20000 in
theorem px_f235_120 : px_fine 235 px_c235_120 := px_fine_add (n := 1) (t := px_c235_121) (by decide +kernel) rfl (px_f235_121)
set_option maxRecDepth 20000 in
theorem px_f235_92 : px_fine 235 px_c235_92 := px_fine_add (n := 14) (t := px_c235_120) (by decide +kernel) rfl (px_f235_120)
set_option maxRecDepth 20000 in
theorem px_f235_89 : px_fine 235 px_c235_89 := px_fine_add (n := 2) (t := px_c235_92) (by decide +kernel) rfl (px_f235_92)
set_option maxRecDepth 20000 in
theorem px_f235_74 : px_fine 235 px_c235_74 := px_fine_add (n := 8) (t := px_c235_89) (by decide +kernel) rfl (px_f235_89)
set_option maxRecDepth 20000 in
theorem px_f235_67 : px_fine 235 px_c235_67 := px_fine_add (n := 4) (t := px_c235_74) (by decide +kernel) rfl (px_f235_74)
set_option maxRecDepth 20000 in
theorem px_f235_49 : px_fine 235 px_c235_49 := px_fine_add (n := 10) (t := px_c235_67) (by decide +kernel) rfl (px_f235_67)
set_option maxRecDepth 20000 in
theorem px_f235_42 : px_fine 235 px_c235_42 := px_fine_add (n := 4) (t := px_c235_49) (by decide +kernel) rfl (px_f235_49)
set_option maxRecDepth 20000 in
theorem px_f235_22 : px_fine 235 px_c235_22 := px_fine_add (n := 12) (t := px_c235_42) (by decide +kernel) rfl (px_f235_42)
set_option maxRecDepth 20000 in
theorem px_f235_16 : px_fine 235 px_c235_16 := px_fine_add (n := 4) (t := px_c235_22) (by decide +kernel) rfl (px_f235_22)
set_option maxRecDepth 20000 in
theorem px_f235_0 : px_fine 235 px_c235_0 := px_fine_add (n := 8) (t := px_c235_16) (by decide +kernel) rfl (px_f235_16)
set_option maxRecDepth 20000 in
theorem px_f236_19 : px_fine 236 px_c236_19 := px_fine_add (n := 7) (t := []) (by decide +kernel) rfl (px_fine_nil 236)
set_option maxRecDepth 20000 in
theorem px_f236_0 : px_fine 236 px_c236_0 := px_fine_add (n := 10) (t := px_c236_19) (by decide +kernel) rfl (px_f236_19)
set_option maxRecDepth 20000 in
theorem px_f237_94 : px_fine 237 px_c237_94 := px_fine_add (n := 1) (t := []) (by decide +kernel) rfl (px_fine_nil 237)
set_option maxRecDepth 20000 in
theorem px_f237_92 : px_fine 237 px_c237_92 := px_fine_add (n := 1) (t := px_c237_94) (by decide +kernel) rfl (px_f237_94)
set_option maxRecDepth 20000 in
theorem px_f237_80 : px_fine 237 px_c237_80 := px_fine_add (n := 7) (t := px_c237_92) (by decide +kernel) rfl (px_f237_92)
set_option maxRecDepth 20000 in
theorem px_f237_68 : px_fine 237 px_c237_68 := px_fine_add (n := 7) (t := px_c237_80) (by decide +kernel) rfl (px_f237_80)
set_option maxRecDepth 20000 in
theorem px_f237_40 : px_fine 237 px_c237_40 := px_fine_add (n := 17) (t := px_c237_68) (by decide +kernel) rfl (px_f237_68)
set_option maxRecDepth 20000 in
theorem px_f237_29 : px_fine 237 px_c237_29 := px_fine_add (n := 6) (t := px_c237_40) (by decide +kernel) rfl (px_f237_40)
set_option maxRecDepth 20000 in
theorem px_f237_18 : px_fine 237 px_c237_18 := px_fine_add (n := 6) (t := px_c237_29) (by decide +kernel) rfl (px_f237_29)
set_option maxRecDepth 20000 in
theorem px_f237_0 : px_fine 237 px_c237_0 := px_fine_add (n := 11) (t := px_c237_18) (by decide +kernel) rfl (px_f237_18)
set_option maxRecDepth 20000 in
theorem px_f238_115 : px_fine 238 px_c238_115 := px_fine_add (n := 1) (t := []) (by decide +kernel) rfl (px_fine_nil 238)
set_option maxRecDepth 20000 in
theorem px_f238_113 : px_fine 238 px_c238_113 := px_fine_add (n := 1) (t := px_c238_115) (by decide +kernel) rfl (px_f238_115)
set_option maxRecDepth 20000 in
theorem px_f238_100 : px_fine 238 px_c238_100 := px_fine_add (n := 7) (t := px_c238_113) (by decide +kernel) rfl (px_f238_113)
set_option maxRecDepth 20000 in
theorem px_f238_71 : px_fine 238 px_c238_71 := px_fine_add (n := 16) (t := px_c238_100) (by decide +kernel) rfl (px_f238_100)
set_option maxRecDepth 20000 in
theorem px_f238_59 : px_fine 238 px_c238_59 := px_fine_add (n := 6) (t := px_c238_71) (by decide +kernel) rfl (px_f238_71)
set_option maxRecDepth 20000 in
theorem px_f238_46 : px_fine 238 px_c238_46 := px_fine_add (n := 6) (t := px_c238_59) (by decide +kernel) rfl (px_f238_59)
set_option maxRecDepth 20000 in
theorem px_f238_45 : px_fine 238 px_c238_45 := px_fine_add (n := 1) (t := px_c238_46) (by decide +kernel) rfl (px_f238_46)
set_option maxRecDepth 20000 in
theorem px_f238_41 : px_fine 238 px_c238_41 := px_fine_add (n := 2) (t := px_c238_45) (by decide +kernel) rfl (px_f238_45)
set_option maxRecDepth 20000 in
theorem px_f238_26 : px_fine 238 px_c238_26 := px_fine_add (n := 9) (t := px_c238_41) (by decide +kernel) rfl (px_f238_41)
set_option maxRecDepth 20000 in
theorem px_f238_0 : px_fine 238 px_c238_0 := px_fine_add (n := 17) (t := px_c238_26) (by decide +kernel) rfl (px_f238_26)
set_option maxRecDepth 20000 in
theorem px_f239_90 : px_fine 239 px_c239_90 := px_fine_add (n := 1) (t := []) (by decide +kernel) rfl (px_fine_nil 239)
set_option maxRecDepth 20000 in
theorem px_f239_88 : px_fine 239 px_c239_88 := px_fine_add (n := 1) (t := px_c239_90) (by decide +kernel) rfl (px_f239_90)
set_option maxRecDepth 20000 in
theorem px_f239_43 : px_fine 239 px_c239_43 := px_fine_add (n := 26) (t := px_c239_88) (by decide +kernel) rfl (px_f239_88)
set_option maxRecDepth 20000 in
theorem px_f239_21 : px_fine 239 px_c239_21 := px_fine_add (n := 13) (t := px_c239_43) (by decide +kernel) rfl (px_f239_43)
set_option maxRecDepth 20000 in
theorem px_f239_0 : px_fine 239 px_c239_0 := px_fine_add (n := 13) (t := px_c239_21) (by decide +kernel) rfl (px_f239_21)
set_option maxRecDepth 20000 in
theorem px_f240_67 : px_fine 240 px_c240_67 := px_fine_add (n := 1) (t := []) (by decide +kernel) rfl (px_fine_nil 240)
set_option maxRecDepth 20000 in
theorem px_f240_61 : px_fine 240 px_c240_61 := px_fine_add (n := 4) (t := px_c240_67) (by decide +kernel) rfl (px_f240_67)
set_option maxRecDepth 20000 in
theorem px_f240_47 : px_fine 240 px_c240_47 := px_fine_add (n := 8) (t := px_c240_61) (by decide +kernel) rfl (px_f240_61)
set_option maxRecDepth 20000 in
theorem px_f240_34 : px_fine 240 px_c240_34 := px_fine_add (n := 7) (t := px_c240_47) (by decide +kernel) rfl (px_f240_47)
set_option maxRecDepth 20000 in
theorem px_f240_32 : px_fine 240 px_c240_32 := px_fine_add (n := 2) (t := px_c240_34) (by decide +kernel) rfl (px_f240_34)
set_option maxRecDepth 20000 in
theorem px_f240_0 : px_fine 240 px_c240_0 := px_fine_add (n := 18) (t := px_c240_32) (by decide +kernel) rfl (px_f240_32)
set_option maxRecDepth 20000 in
theorem px_f241_28 : px_fine 241 px_c241_28 := px_fine_add (n := 1) (t := []) (by decide +kernel) rfl (px_fine_nil 241)
set_option maxRecDepth 20000 in
theorem px_f241_27 : px_fine 241 px_c241_27 := px_fine_add (n := 1) (t := px_c241_28) (by decide +kernel) rfl (px_f241_28)
set_option maxRecDepth 20000 in
theorem px_f241_0 : px_fine 241 px_c241_0 := px_fine_add (n := 14) (t := px_c241_27) (by decide +kernel) rfl (px_f241_27)
set_option maxRecDepth 20000 in
theorem px_f242_49 : px_fine 242 px_c242_49 := px_fine_add (n := 4) (t := []) (by decide +kernel) rfl (px_fine_nil 242)
set_option maxRecDepth 20000 in
theorem px_f242_43 : px_fine 242 px_c242_43 := px_fine_add (n := 2) (t := px_c242_49) (by decide +kernel) rfl (px_f242_49)
set_option maxRecDepth 20000 in
theorem px_f242_30 : px_fine 242 px_c242_30 := px_fine_add (n := 9) (t := px_c242_43) (by decide +kernel) rfl (px_f242_43)
set_option maxRecDepth 20000 in
theorem px_f242_3 : px_fine 242 px_c242_3 := px_fine_add (n := 15) (t := px_c242_30) (by decide +kernel) rfl (px_f242_30)
set_option maxRecDepth 20000 in
theorem px_f242_0 : px_fine 242 px_c242_0 := px_fine_add (n := 2) (t := px_c242_3) (by decide +kernel) rfl (px_f242_3)
set_option maxRecDepth 20000 in
theorem px_f243_163 : px_fine 243 px_c243_163 := px_fine_add (n := 34) (t := []) (by decide +kernel) rfl (px_fine_nil 243)
set_option maxRecDepth 20000 in
theorem px_f243_80 : px_fine 243 px_c243_80 := px_fine_add (n := 50) (t := px_c243_163) (by decide +kernel) rfl (px_f243_163)
set_option maxRecDepth 20000 in
theorem px_f243_0 : px_fine 243 px_c243_0 := px_fine_add (n := 50) (t := px_c243_80) (by decide +kernel) rfl (px_f243_80)
set_option maxRecDepth 20000 in
theorem px_f244_0 : px_fine 244 px_c244_0 := px_fine_add (n := 9) (t := []) (by decide +kernel) rfl (px_fine_nil 244)
set_option maxRecDepth 20000 in
theorem px_f245_14 : px_fine 245 px_c245_14 := px_fine_add (n := 6) (t := []) (by decide +kernel) rfl (px_fine_nil 245)
set_option maxRecDepth 20000 in
theorem px_f245_0 : px_fine 245 px_c245_0 := px_fine_add (n := 7) (t := px_c245_14) (by decide +kernel) rfl (px_f245_14)
set_option maxRecDepth 20000 in
theorem px_f246_168 : px_fine 246 px_c246_168 := px_fine_add (n := 2) (t := []) (by decide +kernel) rfl (px_fine_nil 246)
set_option maxRecDepth 20000 in
theorem px_f246_163 : px_fine 246 px_c246_163 := px_fine_add (n := 3) (t := px_c246_168) (by decide +kernel) rfl (px_f246_168)
set_option maxRecDepth 20000 in
theorem px_f246_158 : px_fine 246 px_c246_158 := px_fine_add (n := 3) (t := px_c246_163) (by decide +kernel) rfl (px_f246_163)
set_option maxRecDepth 20000 in
theorem px_f246_153 : px_fine 246 px_c246_153 := px_fine_add (n := 3) (t := px_c246_158) (by decide +kernel) rfl (px_f246_158)
set_option maxRecDepth 20000 in
theorem px_f246_148 : px_fine 246 px_c246_148 := px_fine_add (n := 3) (t := px_c246_153) (by decide +kernel) rfl (px_f246_153)
set_option maxRecDepth 20000 in
theorem px_f246_143 : px_fine 246 px_c246_143 := px_fine_add (n := 3) (t := px_c246_148) (by decide +kernel) rfl (px_f246_148)
set_option maxRecDepth 20000 in
theorem px_f246_138 : px_fine 246 px_c246_138 := px_fine_add (n := 3) (t := px_c246_143) (by decide +kernel) rfl (px_f246_143)
set_option maxRecDepth 20000 in
theorem px_f246_136 : px_fine 246 px_c246_136 := px_fine_add (n := 2) (t := px_c246_138) (by decide +kernel) rfl (px_f246_138)
set_option maxRecDepth 20000 in
theorem px_f246_128 : px_fine 246 px_c246_128 := px_fine_add (n := 4) (t := px_c246_136) (by decide +kernel) rfl (px_f246_136)
set_option maxRecDepth 20000 in
theorem px_f246_122 : px_fine 246 px_c246_122 := px_fine_add (n := 4) (t := px_c246_128) (by decide +kernel) rfl (px_f246_128)
set_option maxRecDepth 20000 in
theorem px_f246_99 : px_fine 246 px_c246_99 := px_fine_add (n := 13) (t := px_c246_122) (by decide +kernel) rfl (px_f246_122)
set_option maxRecDepth 20000 in
theorem px_f246_95 : px_fine 246 px_c246_95 := px_fine_add (n := 4) (t := px_c246_99) (by decide +kernel) rfl (px_f246_99)
set_option maxRecDepth 20000 in
theorem px_f246_86 : px_fine 246 px_c246_86 := px_fine_add (n := 5) (t := px_c246_95) (by decide +kernel) rfl (px_f246_95)
set_option maxRecDepth 20000 in
theorem px_f246_81 : px_fine 246 px_c246_81 := px_fine_add (n := 3) (t := px_c246_86) (by decide +kernel) rfl (px_f246_86)
set_option maxRecDepth 20000 in
theorem px_f246_76 : px_fine 246 px_c246_76 := px_fine_add (n := 3) (t := px_c246_81) (by decide +kernel) rfl (px_f246_81)
set_option maxRecDepth 20000 in
theorem px_f246_22 : px_fine 246 px_c246_22 := px_fine_add (n := 2) (t := px_c246_76) (by decide +kernel) rfl (px_f246_76)
set_option maxRecDepth 20000 in
theorem px_f246_0 : px_fine 246 px_c246_0 := px_fine_add (n := 13) (t := px_c246_22) (by decide +kernel) rfl (px_f246_22)
set_option maxRecDepth 20000 in
theorem px_f247_0 : px_fine 247 px_c247_0 := px_fine_add (n := 42) (t := []) (by decide +kernel) rfl (px_fine_nil 247)
set_option maxRecDepth 20000 in
theorem px_f248_10 : px_fine 248 px_c248_10 := px_fine_add (n := 1) (t := []) (by decide +kernel) rfl (px_fine_nil 248)
set_option maxRecDepth 20000 in
theorem px_f248_9 : px_fine 248 px_c248_9 := px_fine_add (n := 1) (t := px_c248_10) (by decide +kernel) rfl (px_f248_10)
set_option maxRecDepth 20000 in
theorem px_f248_0 : px_fine 248 px_c248_0 := px_fine_add (n := 5) (t := px_c248_9) (by decide +kernel) rfl (px_f248_9)
set_option maxRecDepth 20000 in
theorem px_f249_10 : px_fine 249 px_c249_10 := px_fine_add (n := 1) (t := []) (by decide +kernel) rfl (px_fine_nil 249)
set_option maxRecDepth 20000 in
theorem px_f249_9 : px_fine 249 px_c249_9 := px_fine_add (n := 1) (t := px_c249_10) (by decide +kernel) rfl (px_f249_10)
set_option maxRecDepth 20000 in
theorem px_f249_0 : px_fine 249 px_c249_0 := px_fine_add (n := 5) (t := px_c249_9) (by decide +kernel) rfl (px_f249_9)
set_option maxRecDepth 20000 in
theorem px_f250_10 : px_fine 250 px_c250_10 := px_fine_add (n := 1) (t := []) (by decide +kernel) rfl (px_fine_nil 250)
set_option maxRecDepth 20000 in
theorem px_f250_9 : px_fine 250 px_c250_9 := px_fine_add (n := 1) (t := px_c250_10) (by decide +kernel) rfl (px_f250_10)
set_option maxRecDepth 20000 in
theorem px_f250_0 : px_fine 250 px_c250_0 := px_fine_add (n := 5) (t := px_c250_9) (by decide +kernel) rfl (px_f250_9)
set_option maxRecDepth 20000 in
theorem px_f251_0 : px_fine 251 px_c251_0 := px_fine_add (n := 7) (t := []) (by decide +kernel) rfl (px_fine_nil 251)
set_option maxRecDepth 20000 in
theorem px_f252_16 : px_fine 252 px_c252_16 := px_fine_add (n := 5) (t := []) (by decide +kernel) rfl (px_fine_nil 252)
set_option maxRecDepth 20000 in
theorem px_f252_0 : px_fine 252 px_c252_0 := px_fine_add (n := 8) (t := px_c252_16) (by decide +kernel) rfl (px_f252_16)
set_option maxRecDepth 20000 in
theorem px_f253_14 : px_fine 253 px_c253_14 := px_fine_add (n := 1) (t := []) (by decide +kernel) rfl (px_fine_nil 253)
set_option maxRecDepth 20000 in
theorem px_f253_13 : px_fine 253 px_c253_13 := px_fine_add (n := 1) (t := px_c253_14) (by decide +kernel) rfl (px_f253_14)
set_option maxRecDepth 20000 in
theorem px_f253_0 : px_fine 253 px_c253_0 := px_fine_add (n := 5) (t := px_c253_13) (by decide +kernel) rfl (px_f253_13)
set_option maxRecDepth 20000 in
theorem px_f254_18 : px_fine 254 px_c254_18 := px_fine_add (n := 1) (t := []) (by decide +kernel) rfl (px_fine_nil 254)
set_option maxRecDepth 20000 in
theorem px_f254_17 : px_fine 254 px_c254_17 := px_fine_add (n := 1) (t := px_c254_18) (by decide +kernel) rfl (px_f254_18)
set_option maxRecDepth 20000 in
theorem px_f254_0 : px_fine 254 px_c254_0 := px_fine_add (n := 7) (t := px_c254_17) (by decide +kernel) rfl (px_f254_17)
set_option maxRecDepth 20000 in
theorem px_f255_0 : px_fine 255 px_c255_0 := px_fine_add (n := 6) (t := []) (by decide +kernel) rfl (px_fine_nil 255)
set_option maxRecDepth 20000 in
theorem px_f256_0 : px_fine 256 px_c256_0 := px_fine_add (n := 11) (t := []) (by decide +kernel) rfl (px_fine_nil 256)
set_option maxRecDepth 20000 in
theorem px_f257_22 : px_fine 257 px_c257_22 := px_fine_add (n := 1) (t := []) (by decide +kernel) rfl (px_fine_nil 257)
set_option maxRecDepth 20000 in
theorem px_f257_6 : px_fine 257 px_c257_6 := px_fine_add (n := 9) (t := px_c257_22) (by decide +kernel) rfl (px_f257_22)
set_option maxRecDepth 20000 in
theorem px_f257_0 : px_fine 257 px_c257_0 := px_fine_add (n := 5) (t := px_c257_6) (by decide +kernel) rfl (px_f257_6)
set_option maxRecDepth 20000 in
theorem px_f258_20 : px_fine 258 px_c258_20 := px_fine_add (n := 1) (t := []) (by decide +kernel) rfl (px_fine_nil 258)
set_option maxRecDepth 20000 in
theorem px_f258_5 : px_fine 258 px_c258_5 := px_fine_add (n := 9) (t := px_c258_20) (by decide +kernel) rfl (px_f258_20)
set_option maxRecDepth 20000 in
theorem px_f258_0 : px_fine 258 px_c258_0 := px_fine_add (n := 5) (t := px_c258_5) (by decide +kernel) rfl (px_f258_5)
set_option maxRecDepth 20000 in
theorem px_f259_16 : px_fine 259 px_c259_16 := px_fine_add (n := 2) (t := []) (by decide +kernel) rfl (px_fine_nil 259)
set_option maxRecDepth 20000 in
theorem px_f259_9 : px_fine 259 px_c259_9 := px_fine_add (n := 5) (t := px_c259_16) (by decide +kernel) rfl (px_f259_16)
set_option maxRecDepth 20000 in
theorem px_f259_0 : px_fine 259 px_c259_0 := px_fine_add (n := 5) (t := px_c259_9) (by decide +kernel) rfl (px_f259_9)
set_option maxRecDepth 20000 in
theorem px_f260_1738 : px_fine 260 px_c260_1738 := px_fine_add (n := 2) (t := []) (by decide +kernel) rfl (px_fine_nil 260)
set_option maxRecDepth 20000 in
theorem px_f260_1732 : px_fine 260 px_c260_1732 := px_fine_add (n := 2) (t := px_c260_1738) (by decide +kernel) rfl (px_f260_1738)
set_option maxRecDepth 20000 in
theorem px_f260_1709 : px_fine 260 px_c260_1709 := px_fine_add (n := 17) (t := px_c260_1732) (by decide +kernel) rfl (px_f260_1732)
set_option maxRecDepth 20000 in
theorem px_f260_1696 : px_fine 260 px_c260_1696 := px_fine_add (n := 7) (t := px_c260_1709) (by decide +kernel) rfl (px_f260_1709)
set_option maxRecDepth 20000 in
theorem px_f260_1683 : px_fine 260 px_c260_1683 := px_fine_add (n := 7) (t := px_c260_1696) (by decide +kernel) rfl (px_f260_1696)
set_option maxRecDepth 20000 in
theorem px_f260_1660 : px_fine 260 px_c260_1660 := px_fine_add (n := 17) (t := px_c260_1683) (by decide +kernel) rfl (px_f260_1683)
set_option maxRecDepth 20000 in
theorem px_f260_1617 : px_fine 260 px_c260_1617 := px_fine_add (n := 37) (t := px_c260_1660) (by decide +kernel) rfl (px_f260_1660)
set_option maxRecDepth 20000 in
theorem px_f260_1574 : px_fine 260 px_c260_1574 := px_fine_add (n := 37) (t := px_c260_1617) (by decide +kernel) rfl (px_f260_1617)
set_option maxRecDepth 20000 in
theorem px_f260_1541 : px_fine 260 px_c260_1541 := px_fine_add (n := 27) (t := px_c260_1574) (by decide +kernel) rfl (px_f260_1574)
set_option maxRecDepth 20000 in
theorem px_f260_1508 : px_fine 260 px_c260_1508 := px_fine_add (n := 27) (t := px_c260_1541) (by decide +kernel) rfl (px_f260_1541)
set_option maxRecDepth 20000 in
theorem px_f260_1500 : px_fine 260 px_c260_1500 := px_fine_add (n := 4) (t := px_c260_1508) (by decide +kernel) rfl (px_f260_1508)
set_option maxRecDepth 20000 in
theorem px_f260_1499 : px_fine 260 px_c260_1499 := px_fine_add (n := 1) (t := px_c260_1500) (by decide +kernel) rfl (px_f260_1500)
set_option maxRecDepth 20000 in
theorem px_f260_1478 : px_fine 260 px_c260_1478 := px_fine_add (n := 15) (t := px_c260_1499) (by decide +kernel) rfl (px_f260_1499)
set_option maxRecDepth 20000 in
theorem px_f260_1477 : px_fine 260 px_c260_1477 := px_fine_add (n := 1) (t := px_c260_1478) (by decide +kernel) rfl (px_f260_1478)
set_option maxRecDepth 20000 in
theorem px_f260_1459 : px_fine 260 px_c260_1459 := px_fine_add (n := 14) (t := px_c260_1477) (by decide +kernel) rfl (px_f260_1477)
set_option maxRecDepth 20000 in
theorem px_f260_1436 : px_fine 260 px_c260_1436 := px_fine_add (n := 17) (t := px_c260_1459) (by decide +kernel) rfl (px_f260_1459)
set_option maxRecDepth 20000 in
theorem px_f260_1403 : px_fine 260 px_c260_1403 := px_fine_add (n := 27) (t := px_c260_1436) (by decide +kernel) rfl (px_f260_1436)
set_option maxRecDepth 20000 in
theorem px_f260_1360 : px_fine 260 px_c260_1360 := px_fine_add (n := 37) (t := px_c260_1403) (by decide +kernel) rfl (px_f260_1403)
set_option maxRecDepth 20000 in
theorem px_f260_1347 : px_fine 260 px_c260_1347 := px_fine_add (n := 7) (t := px_c260_1360) (by decide +kernel) rfl (px_f260_1360)
set_option maxRecDepth 20000 in
theorem px_f260_1324 : px_fine 260 px_c260_1324 := px_fine_add (n := 17) (t := px_c260_1347) (by decide +kernel) rfl (px_f260_1347)
set_option maxRecDepth 20000 in
theorem px_f260_1301 : px_fine 260 px_c260_1301 := px_fine_add (n := 17) (t := px_c260_1324) (by decide +kernel) rfl (px_f260_1324)
set_option maxRecDepth 20000 in
theorem px_f260_1268 : px_fine 260 px_c260_1268 := px_fine_add (n := 27) (t := px_c260_1301) (by decide +kernel) rfl (px_f260_1301)
set_option maxRecDepth 20000 in
theorem px_f260_1235 : px_fine 260 px_c260_1235 := px_fine_add (n := 27) (t := px_c260_1268) (by decide +kernel) rfl (px_f260_1268)
set_option maxRecDepth 20000 in
theorem px_f260_1202 : px_fine 260 px_c260_1202 := px_fine_add (n := 27) (t := px_c260_1235) (by decide +kernel) rfl (px_f260_1235)
set_option maxRecDepth 20000 in
theorem px_f260_1169 : px_fine 260 px_c260_1169 := px_fine_add (n := 27) (t := px_c260_1202) (by decide +kernel) rfl (px_f260_1202)
set_option maxRecDepth 20000 in
theorem px_f260_1136 : px_fine 260 px_c260_1136 := px_fine_add (n := 27) (t := px_c260_1169) (by decide +kernel) rfl (px_f260_1169)
set_option maxRecDepth 20000 in
theorem px_f260_1093 : px_fine 260 px_c260_1093 := px_fine_add (n := 37) (t := px_c260_1136) (by decide +kernel) rfl (px_f260_1136)
set_option maxRecDepth 20000 in
theorem px_f260_1050 : px_fine 260 px_c260_1050 := px_fine_add (n := 37) (t := px_c260_1093) (by decide +kernel) rfl (px_f260_1093)
set_option maxRecDepth 20000 in
theorem px_f260_997 : px_fine 260 px_c260_997 := px_fine_add (n := 47) (t := px_c260_1050) (by decide +kernel) rfl (px_f260_1050)
set_option maxRecDepth 20000 in
theorem px_f260_944 : px_fine 260 px_c260_944 := px_fine_add (n := 47) (t := px_c260_997) (by decide +kernel) rfl (px_f260_997)
set_option maxRecDepth 20000 in
theorem px_f260_936 : px_fine 260 px_c260_936 := px_fine_add (n := 4) (t := px_c260_944) (by decide +kernel) rfl (px_f260_944)
set_option maxRecDepth 20000 in
theorem px_f260_935 : px_fine 260 px_c260_935 := px_fine_add (n := 1) (t := px_c260_936) (by decide +kernel) rfl (px_f260_936)
set_option maxRecDepth 20000 in
theorem px_f260_914 : px_fine 260 px_c260_914 := px_fine_add (n := 15) (t := px_c260_935) (by decide +kernel) rfl (px_f260_935)
set_option maxRecDepth 20000 in
theorem px_f260_913 : px_fine 260 px_c260_913 := px_fine_add (n := 1) (t := px_c260_914) (by decide +kernel) rfl (px_f260_914)
set_option maxRecDepth 20000 in
theorem px_f260_895 : px_fine 260 px_c260_895 := px_fine_add (n := 14) (t := px_c260_913) (by decide +kernel) rfl (px_f260_913)
set_option maxRecDepth 20000 in
theorem px_f260_862 : px_fine 260 px_c260_862 := px_fine_add (n := 27) (t := px_c260_895) (by decide +kernel) rfl (px_f260_895)
set_option maxRecDepth 20000 in
theorem px_f260_829 : px_fine 260 px_c260_829 := px_fine_add (n := 27) (t := px_c260_862) (by decide +kernel) rfl (px_f260_862)
set_option maxRecDepth 20000 in
theorem px_f260_796 : px_fine 260 px_c260_796 := px_fine_add (n := 27) (t := px_c260_829) (by decide +kernel) rfl (px_f260_829)
set_option maxRecDepth 20000 in
theorem px_f260_783 : px_fine 260 px_c260_783 := px_fine_add (n := 7) (t := px_c260_796) (by decide +kernel) rfl (px_f260_796)
set_option maxRecDepth 20000 in
theorem px_f260_760 : px_fine 260 px_c260_760 := px_fine_add (n := 17) (t := px_c260_783) (by decide +kernel) rfl (px_f260_783)
set_option maxRecDepth 20000 in
theorem px_f260_727 : px_fine 260 px_c260_727 := px_fine_add (n := 27) (t := px_c260_760) (by decide +kernel) rfl (px_f260_760)
set_option maxRecDepth 20000 in
theorem px_f260_684 : px_fine 260 px_c260_684 := px_fine_add (n := 37) (t := px_c260_727) (by decide +kernel) rfl (px_f260_727)
set_option maxRecDepth 20000 in
theorem px_f260_651 : px_fine 260 px_c260_651 := px_fine_add (n := 27) (t := px_c260_684) (by decide +kernel) rfl (px_f260_684)
set_option maxRecDepth 20000 in
theorem px_f260_618 : px_fine 260 px_c260_618 := px_fine_add (n := 27) (t := px_c260_651) (by decide +kernel) rfl (px_f260_651)
set_option maxRecDepth 20000 in
theorem px_f260_585 : px_fine 260 px_c260_585 := px_fine_add (n := 27) (t := px_c260_618) (by decide +kernel) rfl (px_f260_618)
set_option maxRecDepth 20000 in
theorem px_f260_532 : px_fine 260 px_c260_532 := px_fine_add (n := 47) (t := px_c260_585) (by decide +kernel) rfl (px_f260_585)
set_option maxRecDepth 20000 in
theorem px_f260_499 : px_fine 260 px_c260_499 := px_fine_add (n := 27) (t := px_c260_532) (by decide +kernel) rfl (px_f260_532)
set_option maxRecDepth 20000 in
theorem px_f260_476 : px_fine 260 px_c260_476 := px_fine_add (n := 17) (t := px_c260_499) (by decide +kernel) rfl (px_f260_499)
set_option maxRecDepth 20000 in
theorem px_f260_433 : px_fine 260 px_c260_433 := px_fine_add (n := 37) (t := px_c260_476) (by decide +kernel) rfl (px_f260_476)
set_option maxRecDepth 20000 in
theorem px_f260_399 : px_fine 260 px_c260_399 := px_fine_add (n := 28) (t := px_c260_433) (by decide +kernel) rfl (px_f260_433)
set_option maxRecDepth 20000 in
theorem px_f260_336 : px_fine 260 px_c260_336 := px_fine_add (n := 57) (t := px_c260_399) (by decide +kernel) rfl (px_f260_399)
set_option maxRecDepth 20000 in
theorem px_f260_319 : px_fine 260 px_c260_319 := px_fine_add (n := 11) (t := px_c260_336) (by decide +kernel) rfl (px_f260_336)
set_option maxRecDepth 20000 in
theorem px_f260_263 : px_fine 260 px_c260_263 := px_fine_add (n := 50) (t := px_c260_319) (by decide +kernel) rfl (px_f260_319)
set_option maxRecDepth 20000 in
theorem px_f260_220 : px_fine 260 px_c260_220 := px_fine_add (n := 37) (t := px_c260_263) (by decide +kernel) rfl (px_f260_263)
set_option maxRecDepth 20000 in
theorem px_f260_18 : px_fine 260 px_c260_18 := px_fine_add (n := 12) (t := px_c260_220) (by decide +kernel) rfl (px_f260_220)
set_option maxRecDepth 20000 in
theorem px_f260_0 : px_fine 260 px_c260_0 := px_fine_add (n := 10) (t := px_c260_18) (by decide +kernel) rfl (px_f260_18)
set_option maxRecDepth 20000 in
theorem px_ok0 : px_ok 0 := List.forall_mem_cons.mpr ⟨⟨px_f0_0, _, _, rfl, rfl⟩, (fun _ h => absurd h List.not_mem_nil)⟩
set_option maxRecDepth 20000 in
theorem px_ok1 : px_ok 1 := List.forall_mem_cons.mpr ⟨⟨px_f1_0, _, _, rfl, rfl⟩, (fun _ h => absurd h List.not_mem_nil)⟩
set_option maxRecDepth 20000 in
theorem px_ok2 : px_ok 2 := List.forall_mem_cons.mpr ⟨⟨px_f2_0, _, _, rfl, rfl⟩, (fun _ h => absurd h List.not_mem_nil)⟩
set_option maxRecDepth 20000 in
theorem px_ok3 : px_ok 3 := List.forall_mem_cons.mpr ⟨⟨px_f3_0, _, _, rfl, rfl⟩, List.forall_mem_cons.mpr ⟨⟨px_f3_30, _, _, rfl, rfl⟩, List.forall_mem_cons.mpr ⟨⟨px_f3_31, _, _, rfl, rfl⟩, (fun _ h => absurd h List.not_mem_nil)⟩⟩⟩
set_option maxRecDepth 20000 in
theorem px_ok4 : px_ok 4 := List.forall_mem_cons.mpr ⟨⟨px_f4_0, _, _, rfl, rfl⟩, List.forall_mem_cons.mpr ⟨⟨px_f4_22, _, _, rfl, rfl⟩, (fun _ h => absurd h List.not_mem_nil)⟩⟩
set_option maxRecDepth 20000 in
theorem px_ok5 : px_ok 5 := List.forall_mem_cons.mpr ⟨⟨px_f5_0, _, _, rfl, rfl⟩, List.forall_mem_cons.mpr ⟨⟨px_f5_14, _, _, rfl, rfl⟩, List.forall_mem_cons.mpr ⟨⟨px_f5_28, _, _, rfl, rfl⟩, List.forall_mem_cons.mpr ⟨⟨px_f5_42, _, _, rfl, rfl⟩, List.forall_mem_cons.mpr ⟨⟨px_f5_92, _, _, rfl, rfl⟩, List.forall_mem_cons.mpr ⟨⟨px_f5_99, _, _, rfl, rfl⟩, List.forall_mem_cons.mpr ⟨⟨px_f5_106, _, _, rfl, rfl⟩, List.forall_mem_cons.mpr ⟨⟨px_f5_110, _, _, rfl, rfl⟩, (fun _ h => absurd h List.not_mem_nil)⟩⟩⟩⟩⟩⟩⟩⟩
set_option maxRecDepth 20000 in
theorem px_ok6 : px_ok 6 := List.forall_mem_cons.mpr ⟨⟨px_f6_0, _, _, rfl, rfl⟩, List.forall_mem_cons.mpr ⟨⟨px_f6_24, _, _, rfl, rfl⟩, List.forall_mem_cons.mpr ⟨⟨px_f6_28, _, _, rfl, rfl⟩, List.forall_mem_cons.mpr ⟨⟨px_f6_29, _, _, rfl, rfl⟩, List.forall_mem_cons.mpr ⟨⟨px_f6_44, _, _, rfl, rfl⟩, List.forall_mem_cons.mpr ⟨⟨px_f6_54, _, _, rfl, rfl⟩, List.forall_mem_cons.mpr ⟨⟨px_f6_69, _, _, rfl, rfl⟩, List.forall_mem_cons.mpr ⟨⟨px_f6_90, _, _, rfl, rfl⟩, List.forall_mem_cons.mpr ⟨⟨px_f6_91, _, _, rfl, rfl⟩, List.forall_mem_cons.mpr ⟨⟨px_f6_105, _, _, rfl, rfl⟩, List.forall_mem_cons.mpr ⟨⟨px_f6_120, _, _, rfl, rfl⟩, List.forall_mem_cons.mpr ⟨⟨px_f6_121, _, _, rfl, rfl⟩, (fun _ h => absurd h List.not_mem_nil)⟩⟩⟩⟩⟩⟩⟩⟩⟩⟩⟩⟩
set_option maxRecDepth 20000 in
theorem px_ok7 : px_ok 7 := List.forall_mem_cons.mpr ⟨⟨px_f7_0, _, _, rfl, rfl⟩, List.forall_mem_cons.mpr ⟨⟨px_f7_14, _, _, rfl, rfl⟩, List.forall_mem_cons.mpr ⟨⟨px_f7_29, _, _, rfl, rfl⟩, List.forall_mem_cons.mpr ⟨⟨px_f7_47, _, _, rfl, rfl⟩, List.forall_mem_cons.mpr ⟨⟨px_f7_48, _, _, rfl, rfl⟩, List.forall_mem_cons.mpr ⟨⟨px_f7_89, _, _, rfl, rfl⟩, List.forall_mem_cons.mpr ⟨⟨px_f7_91, _, _, rfl, rfl⟩, (fun _ h => absurd h List.not_mem_nil)⟩⟩⟩⟩⟩⟩⟩
set_option maxRecDepth 20000 in
theorem px_ok8 : px_ok 8 := List.forall_mem_cons.mpr ⟨⟨px_f8_0, _, _, rfl, rfl⟩, (fun _ h => absurd h List.not_mem_nil)⟩
set_option maxRecDepth 20000 in
theorem px_ok9 : px_ok 9 := List.forall_mem_cons.mpr ⟨⟨px_f9_0, _, _, rfl, rfl⟩, List.forall_mem_cons.mpr ⟨⟨px_f9_38, _, _, rfl, rfl⟩, List.forall_mem_cons.mpr ⟨⟨px_f9_74, _, _, rfl, rfl⟩, List.forall_mem_cons.mpr ⟨⟨px_f9_80, _, _, rfl, rfl⟩, List.forall_mem_cons.mpr ⟨⟨px_f9_96, _, _, rfl, rfl⟩, List.forall_mem_cons.mpr ⟨⟨px_f9_98, _, _, rfl, rfl⟩, List.forall_mem_cons.mpr ⟨⟨px_f9_116, _, _, rfl, rfl⟩, List.forall_mem_cons.mpr ⟨⟨px_f9_154, _, _, rfl, rfl⟩, List.forall_mem_cons.mpr ⟨⟨px_f9_160, _, _, rfl, rfl⟩, List.forall_mem_cons.mpr ⟨⟨px_f9_163, _, _, rfl, rfl⟩, List.forall_mem_cons.mpr ⟨⟨px_f9_194, _, _, rfl, rfl⟩, (fun _ h => absurd h List.not_mem_nil)⟩⟩⟩⟩⟩⟩⟩⟩⟩⟩⟩
set_option maxRecDepth 20000 in
theorem px_ok10 : px_ok 10 := List.forall_mem_cons.mpr ⟨⟨px_f10_0, _, _, rfl, rfl⟩, List.forall_mem_cons.mpr ⟨⟨px_f10_5, _, _, rfl, rfl⟩, List.forall_mem_cons.mpr ⟨⟨px_f10_35, _, _, rfl, rfl⟩, List.forall_mem_cons.mpr ⟨⟨px_f10_59, _, _, rfl, rfl⟩, List.forall_mem_cons.mpr ⟨⟨px_f10_63, _, _, rfl, rfl⟩, List.forall_mem_cons.mpr ⟨⟨px_f10_64, _, _, rfl, rfl⟩, List.forall_mem_cons.mpr ⟨⟨px_f10_74, _, _, rfl, rfl⟩, List.forall_mem_cons.mpr ⟨⟨px_f10_80, _, _, rfl, rfl⟩, (fun _ h => absurd h List.not_mem_nil)⟩⟩⟩⟩⟩⟩⟩⟩
set_option maxRecDepth 20000 in
theorem px_ok11 : px_ok 11 := List.forall_mem_cons.mpr ⟨⟨px_f11_0, _, _, rfl, rfl⟩, List.forall_mem_cons.mpr ⟨⟨px_f11_30, _, _, rfl, rfl⟩, List.forall_mem_cons.mpr ⟨⟨px_f11_31, _, _, rfl, rfl⟩, List.forall_mem_cons.mpr ⟨⟨px_f11_32, _, _, rfl, rfl⟩, List.forall_mem_cons.mpr ⟨⟨px_f11_49, _, _, rfl, rfl⟩, List.forall_mem_cons.mpr ⟨⟨px_f11_50, _, _, rfl, rfl⟩, (fun _ h => absurd h List.not_mem_nil)⟩⟩⟩⟩⟩⟩
set_option maxRecDepth 20000 in
theorem px_ok12 : px_ok 12 := List.forall_mem_cons.mpr ⟨⟨px_f12_0, _, _, rfl, rfl⟩, List.forall_mem_cons.mpr ⟨⟨px_f12_4, _, _, rfl, rfl⟩, List.forall_mem_cons.mpr ⟨⟨px_f12_29, _, _, rfl, rfl⟩, List.forall_mem_cons.mpr ⟨⟨px_f12_35, _, _, rfl, rfl⟩, (fun _ h => absurd h List.not_mem_nil)⟩⟩⟩⟩
set_option maxRecDepth 20000 in
theorem px_ok13 : px_ok 13 := List.forall_mem_cons.mpr ⟨⟨px_f13_0, _, _, rfl, rfl⟩, List.forall_mem_cons.mpr ⟨⟨px_f13_23, _, _, rfl, rfl⟩, List.forall_mem_cons.mpr ⟨⟨px_f13_24, _, _, rfl, rfl⟩, (fun _ h => absurd h List.not_mem_nil)⟩⟩⟩
set_option maxRecDepth 20000 in
theorem px_ok14 : px_ok 14 := List.forall_mem_cons.mpr ⟨⟨px_f14_0, _, _, rfl, rfl⟩, List.forall_mem_cons.mpr ⟨⟨px_f14_2, _, _, rfl, rfl⟩, List.forall_mem_cons.mpr ⟨⟨px_f14_34, _, _, rfl, rfl⟩, List.forall_mem_cons.mpr ⟨⟨px_f14_40, _, _, rfl, rfl⟩, (fun _ h => absurd h List.not_mem_nil)⟩⟩⟩⟩
set_option maxRecDepth 20000 in
theorem px_ok15 : px_ok 15 := List.forall_mem_cons.mpr ⟨⟨px_f15_0, _, _, rfl, rfl⟩, List.forall_mem_cons.mpr ⟨⟨px_f15_2, _, _, rfl, rfl⟩, List.forall_mem_cons.mpr ⟨⟨px_f15_20, _, _, rfl, rfl⟩, List.forall_mem_cons.mpr ⟨⟨px_f15_53, _, _, rfl, rfl⟩, List.forall_mem_cons.mpr ⟨⟨px_f15_59, _, _, rfl, rfl⟩, List.forall_mem_cons.mpr ⟨⟨px_f15_79, _, _, rfl, rfl⟩, List.forall_mem_cons.mpr ⟨⟨px_f15_81, _, _, rfl, rfl⟩, List.forall_mem_cons.mpr ⟨⟨px_f15_97, _, _, rfl, rfl⟩, (fun _ h => absurd h List.not_mem_nil)⟩⟩⟩⟩⟩⟩⟩⟩
set_option maxRecDepth 20000 in
theorem px_ok16 : px_ok 16 := List.forall_mem_cons.mpr ⟨⟨px_f16_0, _, _, rfl, rfl⟩, List.forall_mem_cons.mpr ⟨⟨px_f16_4, _, _, rfl, rfl⟩, List.forall_mem_cons.mpr ⟨⟨px_f16_25, _, _, rfl, rfl⟩, List.forall_mem_cons.mpr ⟨⟨px_f16_37, _, _, rfl, rfl⟩, (fun _ h => absurd h List.not_mem_nil)⟩⟩⟩⟩
set_option maxRecDepth 20000 in
theorem px_ok17 : px_ok 17 := List.forall_mem_cons.mpr ⟨⟨px_f17_0, _, _, rfl, rfl⟩, List.forall_mem_cons.mpr ⟨⟨px_f17_12, _, _, rfl, rfl⟩, List.forall_mem_cons.mpr ⟨⟨px_f17_34, _, _, rfl, rfl⟩, List.forall_mem_cons.mpr ⟨⟨px_f17_50, _, _, rfl, rfl⟩, List.forall_mem_cons.mpr ⟨⟨px_f17_78, _, _, rfl, rfl⟩, List.forall_mem_cons.mpr ⟨⟨px_f17_95, _, _, rfl, rfl⟩, List.forall_mem_cons.mpr ⟨⟨px_f17_96, _, _, rfl, rfl⟩, (fun _ h => absurd h List.not_mem_nil)⟩⟩⟩⟩⟩⟩⟩
set_option maxRecDepth 20000 in
theorem px_ok18 : px_ok 18 := List.forall_mem_cons.mpr ⟨⟨px_f18_0, _, _, rfl, rfl⟩, List.forall_mem_cons.mpr ⟨⟨px_f18_5, _, _, rfl, rfl⟩, List.forall_mem_cons.mpr ⟨⟨px_f18_26, _, _, rfl, rfl⟩, List.forall_mem_cons.mpr ⟨⟨px_f18_57, _, _, rfl, rfl⟩, List.forall_mem_cons.mpr ⟨⟨px_f18_60, _, _, rfl, rfl⟩, List.forall_mem_cons.mpr ⟨⟨px_f18_66, _, _, rfl, rfl⟩, (fun _ h => absurd h List.not_mem_nil)⟩⟩⟩⟩⟩⟩
set_option maxRecDepth 20000 in
theorem px_ok19 : px_ok 19 := List.forall_mem_cons.mpr ⟨⟨px_f19_0, _, _, rfl, rfl⟩, (fun _ h => absurd h List.not_mem_nil)⟩
set_option maxRecDepth 20000 in
theorem px_ok20 : px_ok 20 := List.forall_mem_cons.mpr ⟨⟨px_f20_0, _, _, rfl, rfl⟩, List.forall_mem_cons.mpr ⟨⟨px_f20_19, _, _, rfl, rfl⟩, List.forall_mem_cons.mpr ⟨⟨px_f20_44, _, _, rfl, rfl⟩, (fun _ h => absurd h List.not_mem_nil)⟩⟩⟩
set_option maxRecDepth 20000 in
theorem px_ok21 : px_ok 21 := List.forall_mem_cons.mpr ⟨⟨px_f21_0, _, _, rfl, rfl⟩, List.forall_mem_cons.mpr ⟨⟨px_f21_8, _, _, rfl, rfl⟩, List.forall_mem_cons.mpr ⟨⟨px_f21_40, _, _, rfl, rfl⟩, (fun _ h => absurd h List.not_mem_nil)⟩⟩⟩
set_option maxRecDepth 20000 in
theorem px_ok22 : px_ok 22 := List.forall_mem_cons.mpr ⟨⟨px_f22_0, _, _, rfl, rfl⟩, List.forall_mem_cons.mpr ⟨⟨px_f22_2, _, _, rfl, rfl⟩, List.forall_mem_cons.mpr ⟨⟨px_f22_35, _, _, rfl, rfl⟩, (fun _ h => absurd h List.not_mem_nil)⟩⟩⟩
set_option maxRecDepth 20000 in
theorem px_ok23 : px_ok 23 := List.forall_mem_cons.mpr ⟨⟨px_f23_0, _, _, rfl, rfl⟩, List.forall_mem_cons.mpr ⟨⟨px_f23_11, _, _, rfl, rfl⟩, List.forall_mem_cons.mpr ⟨⟨px_f23_21, _, _, rfl, rfl⟩, List.forall_mem_cons.mpr ⟨⟨px_f23_32, _, _, rfl, rfl⟩, List.forall_mem_cons.mpr ⟨⟨px_f23_45, _, _, rfl, rfl⟩, List.forall_mem_cons.mpr ⟨⟨px_f23_46, _, _, rfl, rfl⟩, (fun _ h => absurd h List.not_mem_nil)⟩⟩⟩⟩⟩⟩
set_option maxRecDepth 20000 in
theorem px_ok24 : px_ok 24 := List.forall_mem_cons.mpr ⟨⟨px_f24_0, _, _, rfl, rfl⟩, List.forall_mem_cons.mpr ⟨⟨px_f24_32, _, _, rfl, rfl⟩, List.forall_mem_cons.mpr ⟨⟨px_f24_38, _, _, rfl, rfl⟩, List.forall_mem_cons.mpr ⟨⟨px_f24_43, _, _, rfl, rfl⟩, List.forall_mem_cons.mpr ⟨⟨px_f24_49, _, _, rfl, rfl⟩, List.forall_mem_cons.mpr ⟨⟨px_f24_55, _, _, rfl, rfl⟩, (fun _ h => absurd h List.not_mem_nil)⟩⟩⟩⟩⟩⟩
set_option maxRecDepth 20000 in
theorem px_ok25 : px_ok 25 := List.forall_mem_cons.mpr ⟨⟨px_f25_0, _, _, rfl, rfl⟩, List.forall_mem_cons.mpr ⟨⟨px_f25_24, _, _, rfl, rfl⟩, List.forall_mem_cons.mpr ⟨⟨px_f25_25, _, _, rfl, rfl⟩, (fun _ h => absurd h List.not_mem_nil)⟩⟩⟩
set_option maxRecDepth 20000 in
theorem px_ok26 : px_ok 26 := List.forall_mem_cons.mpr ⟨⟨px_f26_0, _, _, rfl, rfl⟩, List.forall_mem_cons.mpr ⟨⟨px_f26_2, _, _, rfl, rfl⟩, List.forall_mem_cons.mpr ⟨⟨px_f26_36, _, _, rfl, rfl⟩, List.forall_mem_cons.mpr ⟨⟨px_f26_42, _, _, rfl, rfl⟩, (fun _ h => absurd h List.not_mem_nil)⟩⟩⟩⟩
set_option maxRecDepth 20000 in
theorem px_ok27 : px_ok 27 := List.forall_mem_cons.mpr ⟨⟨px_f27_0, _, _, rfl, rfl⟩, List.forall_mem_cons.mpr ⟨⟨px_f27_2, _, _, rfl, rfl⟩, List.forall_mem_cons.mpr ⟨⟨px_f27_31, _, _, rfl, rfl⟩, List.forall_mem_cons.mpr ⟨⟨px_f27_37, _, _, rfl, rfl⟩, (fun _ h => absurd h List.not_mem_nil)⟩⟩⟩⟩
set_option maxRecDepth 20000 in
theorem px_ok28 : px_ok 28 := List.forall_mem_cons.mpr ⟨⟨px_f28_0, _, _, rfl, rfl⟩, List.forall_mem_cons.mpr ⟨⟨px_f28_15, _, _, rfl, rfl⟩, List.forall_mem_cons.mpr ⟨⟨px_f28_17, _, _, rfl, rfl⟩, List.forall_mem_cons.mpr ⟨⟨px_f28_34, _, _, rfl, rfl⟩, List.forall_mem_cons.mpr ⟨⟨px_f28_66, _, _, rfl, rfl⟩, List.forall_mem_cons.mpr ⟨⟨px_f28_72, _, _, rfl, rfl⟩, (fun _ h => absurd h List.not_mem_nil)⟩⟩⟩⟩⟩⟩
set_option maxRecDepth 20000 in
theorem px_ok29 : px_ok 29 := List.forall_mem_cons.mpr ⟨⟨px_f29_0, _, _, rfl, rfl⟩, List.forall_mem_cons.mpr ⟨⟨px_f29_2, _, _, rfl, rfl⟩, List.forall_mem_cons.mpr ⟨⟨px_f29_39, _, _, rfl, rfl⟩, List.forall_mem_cons.mpr ⟨⟨px_f29_40, _, _, rfl, rfl⟩, List.forall_mem_cons.mpr ⟨⟨px_f29_67, _, _, rfl, rfl⟩, List.forall_mem_cons.mpr ⟨⟨px_f29_73, _, _, rfl, rfl⟩, (fun _ h => absurd h List.not_mem_nil)⟩⟩⟩⟩⟩⟩
set_option maxRecDepth 20000 in
theorem px_ok30 : px_ok 30 := List.forall_mem_cons.mpr ⟨⟨px_f30_0, _, _, rfl, rfl⟩, List.forall_mem_cons.mpr ⟨⟨px_f30_6, _, _, rfl, rfl⟩, List.forall_mem_cons.mpr ⟨⟨px_f30_26, _, _, rfl, rfl⟩, List.forall_mem_cons.mpr ⟨⟨px_f30_41, _, _, rfl, rfl⟩, List.forall_mem_cons.mpr ⟨⟨px_f30_50, _, _, rfl, rfl⟩, List.forall_mem_cons.mpr ⟨⟨px_f30_56, _, _, rfl, rfl⟩, (fun _ h => absurd h List.not_mem_nil)⟩⟩⟩⟩⟩⟩
set_option maxRecDepth 20000 in
theorem px_ok31 : px_ok 31 := List.forall_mem_cons.mpr ⟨⟨px_f31_0, _, _, rfl, rfl⟩, (fun _ h => absurd h List.not_mem_nil)⟩
set_option maxRecDepth 20000 in
theorem px_ok32 : px_ok 32 := List.forall_mem_cons.mpr ⟨⟨px_f32_0, _, _, rfl, rfl⟩, List.forall_mem_cons.mpr ⟨⟨px_f32_13, _, _, rfl, rfl⟩, List.forall_mem_cons.mpr ⟨⟨px_f32_14, _, _, rfl, rfl⟩, (fun _ h => absurd h List.not_mem_nil)⟩⟩⟩
set_option maxRecDepth 20000 in
theorem px_ok33 : px_ok 33 := List.forall_mem_cons.mpr ⟨⟨px_f33_0, _, _, rfl, rfl⟩, List.forall_mem_cons.mpr ⟨⟨px_f33_20, _, _, rfl, rfl⟩, List.forall_mem_cons.mpr ⟨⟨px_f33_21, _, _, rfl, rfl⟩, (fun _ h => absurd h List.not_mem_nil)⟩⟩⟩
set_option maxRecDepth 20000 in
theorem px_ok34 : px_ok 34 := List.forall_mem_cons.mpr ⟨⟨px_f34_0, _, _, rfl, rfl⟩, (fun _ h => absurd h List.not_mem_nil)⟩
set_option maxRecDepth 20000 in
theorem px_ok35 : px_ok 35 := List.forall_mem_cons.mpr ⟨⟨px_f35_0, _, _, rfl, rfl⟩, (fun _ h => absurd h List.not_mem_nil)⟩
set_option maxRecDepth 20000 in
theorem px_ok36 : px_ok 36 := List.forall_mem_cons.mpr ⟨⟨px_f36_0, _, _, rfl, rfl⟩, List.forall_mem_cons.mpr ⟨⟨px_f36_21, _, _, rfl, rfl⟩, List.forall_mem_cons.mpr ⟨⟨px_f36_25, _, _, rfl, rfl⟩, List.forall_mem_cons.mpr ⟨⟨px_f36_26, _, _, rfl, rfl⟩, List.forall_mem_cons.mpr ⟨⟨px_f36_48, _, _, rfl, rfl⟩, List.forall_mem_cons.mpr ⟨⟨px_f36_49, _, _, rfl, rfl⟩, (fun _ h => absurd h List.not_mem_nil)⟩⟩⟩⟩⟩⟩
set_option maxRecDepth 20000 in
theorem px_ok37 : px_ok 37 := List.forall_mem_cons.mpr ⟨⟨px_f37_0, _, _, rfl, rfl⟩, List.forall_mem_cons.mpr ⟨⟨px_f37_16, _, _, rfl, rfl⟩, List.forall_mem_cons.mpr ⟨⟨px_f37_17, _, _, rfl, rfl⟩, (fun _ h => absurd h List.not_mem_nil)⟩⟩⟩
set_option maxRecDepth 20000 in
theorem px_ok38 : px_ok 38 := List.forall_mem_cons.mpr ⟨⟨px_f38_0, _, _, rfl, rfl⟩, List.forall_mem_cons.mpr ⟨⟨px_f38_26, _, _, rfl, rfl⟩, List.forall_mem_cons.mpr ⟨⟨px_f38_27, _, _, rfl, rfl⟩, (fun _ h => absurd h List.not_mem_nil)⟩⟩⟩
set_option maxRecDepth 20000 in
theorem px_ok39 : px_ok 39 := List.forall_mem_cons.mpr ⟨⟨px_f39_0, _, _, rfl, rfl⟩, List.forall_mem_cons.mpr ⟨⟨px_f39_21, _, _, rfl, rfl⟩, List.forall_mem_cons.mpr ⟨⟨px_f39_22, _, _, rfl, rfl⟩, (fun _ h => absurd h List.not_mem_nil)⟩⟩⟩
set_option maxRecDepth 20000 in
theorem px_ok40 : px_ok 40 := List.forall_mem_cons.mpr ⟨⟨px_f40_0, _, _, rfl, rfl⟩, (fun _ h => absurd h List.not_mem_nil)⟩
set_option maxRecDepth 20000 in
theorem px_ok41 : px_ok 41 := List.forall_mem_cons.mpr ⟨⟨px_f41_0, _, _, rfl, rfl⟩, List.forall_mem_cons.mpr ⟨⟨px_f41_19, _, _, rfl, rfl⟩, (fun _ h => absurd h List.not_mem_nil)⟩⟩
set_option maxRecDepth 20000 in
theorem px_ok42 : px_ok 42 := List.forall_mem_cons.mpr ⟨⟨px_f42_0, _, _, rfl, rfl⟩, List.forall_mem_cons.mpr ⟨⟨px_f42_32, _, _, rfl, rfl⟩, List.forall_mem_cons.mpr ⟨⟨px_f42_37, _, _, rfl, rfl⟩, List.forall_mem_cons.mpr ⟨⟨px_f42_42, _, _, rfl, rfl⟩, List.forall_mem_cons.mpr ⟨⟨px_f42_46, _, _, rfl, rfl⟩, (fun _ h => absurd h List.not_mem_nil)⟩⟩⟩⟩⟩
set_option maxRecDepth 20000 in
theorem px_ok43 : px_ok 43 := List.forall_mem_cons.mpr ⟨⟨px_f43_0, _, _, rfl, rfl⟩, List.forall_mem_cons.mpr ⟨⟨px_f43_12, _, _, rfl, rfl⟩, List.forall_mem_cons.mpr ⟨⟨px_f43_17, _, _, rfl, rfl⟩, List.forall_mem_cons.mpr ⟨⟨px_f43_38, _, _, rfl, rfl⟩, List.forall_mem_cons.mpr ⟨⟨px_f43_42, _, _, rfl, rfl⟩, List.forall_mem_cons.mpr ⟨⟨px_f43_43, _, _, rfl, rfl⟩, (fun _ h => absurd h List.not_mem_nil)⟩⟩⟩⟩⟩⟩
set_option maxRecDepth 20000 in
theorem px_ok44 : px_ok 44 := List.forall_mem_cons.mpr ⟨⟨px_f44_0, _, _, rfl, rfl⟩, List.forall_mem_cons.mpr ⟨⟨px_f44_20, _, _, rfl, rfl⟩, List.forall_mem_cons.mpr ⟨⟨px_f44_21, _, _, rfl, rfl⟩, (fun _ h => absurd h List.not_mem_nil)⟩⟩⟩
set_option maxRecDepth 20000 in
theorem px_ok45 : px_ok 45 := List.forall_mem_cons.mpr ⟨⟨px_f45_0, _, _, rfl, rfl⟩, List.forall_mem_cons.mpr ⟨⟨px_f45_90, _, _, rfl, rfl⟩, (fun _ h => absurd h List.not_mem_nil)⟩⟩
set_option maxRecDepth 20000 in
theorem px_ok46 : px_ok 46 := List.forall_mem_cons.mpr ⟨⟨px_f46_0, _, _, rfl, rfl⟩, (fun _ h => absurd h List.not_mem_nil)⟩
set_option maxRecDepth 20000 in
theorem px_ok47 : px_ok 47 := List.forall_mem_cons.mpr ⟨⟨px_f47_0, _, _, rfl, rfl⟩, List.forall_mem_cons.mpr ⟨⟨px_f47_16, _, _, rfl, rfl⟩, List.forall_mem_cons.mpr ⟨⟨px_f47_20, _, _, rfl, rfl⟩, List.forall_mem_cons.mpr ⟨⟨px_f47_21, _, _, rfl, rfl⟩, (fun _ h => absurd h List.not_mem_nil)⟩⟩⟩⟩
set_option maxRecDepth 20000 in
theorem px_ok48 : px_ok 48 := List.forall_mem_cons.mpr ⟨⟨px_f48_0, _, _, rfl, rfl⟩, List.forall_mem_cons.mpr ⟨⟨px_f48_16, _, _, rfl, rfl⟩, List.forall_mem_cons.mpr ⟨⟨px_f48_17, _, _, rfl, rfl⟩, List.forall_mem_cons.mpr ⟨⟨px_f48_34, _, _, rfl, rfl⟩, List.forall_mem_cons.mpr ⟨⟨px_f48_58, _, _, rfl, rfl⟩, List.forall_mem_cons.mpr ⟨⟨px_f48_79, _, _, rfl, rfl⟩, (fun _ h => absurd h List.not_mem_nil)⟩⟩⟩⟩⟩⟩
set_option maxRecDepth 20000 in
theorem px_ok49 : px_ok 49 := List.forall_mem_cons.mpr ⟨⟨px_f49_0, _, _, rfl, rfl⟩, List.forall_mem_cons.mpr ⟨⟨px_f49_40, _, _, rfl, rfl⟩, List.forall_mem_cons.mpr ⟨⟨px_f49_45, _, _, rfl, rfl⟩, List.forall_mem_cons.mpr ⟨⟨px_f49_50, _, _, rfl, rfl⟩, List.forall_mem_cons.mpr ⟨⟨px_f49_55, _, _, rfl, rfl⟩, List.forall_mem_cons.mpr ⟨⟨px_f49_60, _, _, rfl, rfl⟩, List.forall_mem_cons.mpr ⟨⟨px_f49_65, _, _, rfl, rfl⟩, List.forall_mem_cons.mpr ⟨⟨px_f49_70, _, _, rfl, rfl⟩, (fun _ h => absurd h List.not_mem_nil)⟩⟩⟩⟩⟩⟩⟩⟩
set_option maxRecDepth 20000 in
theorem px_ok50 : px_ok 50 := List.forall_mem_cons.mpr ⟨⟨px_f50_0, _, _, rfl, rfl⟩, List.forall_mem_cons.mpr ⟨⟨px_f50_2, _, _, rfl, rfl⟩, List.forall_mem_cons.mpr ⟨⟨px_f50_28, _, _, rfl, rfl⟩, List.forall_mem_cons.mpr ⟨⟨px_f50_34, _, _, rfl, rfl⟩, (fun _ h => absurd h List.not_mem_nil)⟩⟩⟩⟩
set_option maxRecDepth 20000 in
theorem px_ok51 : px_ok 51 := List.forall_mem_cons.mpr ⟨⟨px_f51_0, _, _, rfl, rfl⟩, List.forall_mem_cons.mpr ⟨⟨px_f51_21, _, _, rfl, rfl⟩, List.forall_mem_cons.mpr ⟨⟨px_f51_22, _, _, rfl, rfl⟩, (fun _ h => absurd h List.not_mem_nil)⟩⟩⟩
set_option maxRecDepth 20000 in
theorem px_ok52 : px_ok 52 := List.forall_mem_cons.mpr ⟨⟨px_f52_0, _, _, rfl, rfl⟩, List.forall_mem_cons.mpr ⟨⟨px_f52_17, _, _, rfl, rfl⟩, List.forall_mem_cons.mpr ⟨⟨px_f52_18, _, _, rfl, rfl⟩, (fun _ h => absurd h List.not_mem_nil)⟩⟩⟩
set_option maxRecDepth 20000 in
theorem px_ok53 : px_ok 53 := List.forall_mem_cons.mpr ⟨⟨px_f53_0, _, _, rfl, rfl⟩, List.forall_mem_cons.mpr ⟨⟨px_f53_17, _, _, rfl, rfl⟩, List.forall_mem_cons.mpr ⟨⟨px_f53_18, _, _, rfl, rfl⟩, (fun _ h => absurd h List.not_mem_nil)⟩⟩⟩
set_option maxRecDepth 20000 in
theorem px_ok54 : px_ok 54 := List.forall_mem_cons.mpr ⟨⟨px_f54_0, _, _, rfl, rfl⟩, (fun _ h => absurd h List.not_mem_nil)⟩
set_option maxRecDepth 20000 in
theorem px_ok55 : px_ok 55 := List.forall_mem_cons.mpr ⟨⟨px_f55_0, _, _, rfl, rfl⟩, List.forall_mem_cons.mpr ⟨⟨px_f55_4, _, _, rfl, rfl⟩, List.forall_mem_cons.mpr ⟨⟨px_f55_29, _, _, rfl, rfl⟩, List.forall_mem_cons.mpr ⟨⟨px_f55_35, _, _, rfl, rfl⟩, (fun _ h => absurd h List.not_mem_nil)⟩⟩⟩⟩
set_option maxRecDepth 20000 in
theorem px_ok56 : px_ok 56 := List.forall_mem_cons.mpr ⟨⟨px_f56_0, _, _, rfl, rfl⟩, List.forall_mem_cons.mpr ⟨⟨px_f56_4, _, _, rfl, rfl⟩, List.forall_mem_cons.mpr ⟨⟨px_f56_37, _, _, rfl, rfl⟩, List.forall_mem_cons.mpr ⟨⟨px_f56_43, _, _, rfl, rfl⟩, (fun _ h => absurd h List.not_mem_nil)⟩⟩⟩⟩
set_option maxRecDepth 20000 in
theorem px_ok57 : px_ok 57 := List.forall_mem_cons.mpr ⟨⟨px_f57_0, _, _, rfl, rfl⟩, List.forall_mem_cons.mpr ⟨⟨px_f57_48, _, _, rfl, rfl⟩, List.forall_mem_cons.mpr ⟨⟨px_f57_59, _, _, rfl, rfl⟩, List.forall_mem_cons.mpr ⟨⟨px_f57_69, _, _, rfl, rfl⟩, List.forall_mem_cons.mpr ⟨⟨px_f57_76, _, _, rfl, rfl⟩, List.forall_mem_cons.mpr ⟨⟨px_f57_83, _, _, rfl, rfl⟩, (fun _ h => absurd h List.not_mem_nil)⟩⟩⟩⟩⟩⟩
set_option maxRecDepth 20000 in
theorem px_ok58 : px_ok 58 := List.forall_mem_cons.mpr ⟨⟨px_f58_0, _, _, rfl, rfl⟩, List.forall_mem_cons.mpr ⟨⟨px_f58_4, _, _, rfl, rfl⟩, List.forall_mem_cons.mpr ⟨⟨px_f58_37, _, _, rfl, rfl⟩, List.forall_mem_cons.mpr ⟨⟨px_f58_43, _, _, rfl, rfl⟩, (fun _ h => absurd h List.not_mem_nil)⟩⟩⟩⟩
set_option maxRecDepth 20000 in
theorem px_ok59 : px_ok 59 := List.forall_mem_cons.mpr ⟨⟨px_f59_0, _, _, rfl, rfl⟩, List.forall_mem_cons.mpr ⟨⟨px_f59_8, _, _, rfl, rfl⟩, List.forall_mem_cons.mpr ⟨⟨px_f59_18, _, _, rfl, rfl⟩, List.forall_mem_cons.mpr ⟨⟨px_f59_84, _, _, rfl, rfl⟩, List.forall_mem_cons.mpr ⟨⟨px_f59_90, _, _, rfl, rfl⟩, List.forall_mem_cons.mpr ⟨⟨px_f59_96, _, _, rfl, rfl⟩, (fun _ h => absurd h List.not_mem_nil)⟩⟩⟩⟩⟩⟩
set_option maxRecDepth 20000 in
theorem px_ok60 : px_ok 60 := List.forall_mem_cons.mpr ⟨⟨px_f60_0, _, _, rfl, rfl⟩, List.forall_mem_cons.mpr ⟨⟨px_f60_27, _, _, rfl, rfl⟩, List.forall_mem_cons.mpr ⟨⟨px_f60_43, _, _, rfl, rfl⟩, (fun _ h => absurd h List.not_mem_nil)⟩⟩⟩
set_option maxRecDepth 20000 in
theorem px_ok61 : px_ok 61 := List.forall_mem_cons.mpr ⟨⟨px_f61_0, _, _, rfl, rfl⟩, List.forall_mem_cons.mpr ⟨⟨px_f61_10, _, _, rfl, rfl⟩, List.forall_mem_cons.mpr ⟨⟨px_f61_37, _, _, rfl, rfl⟩, List.forall_mem_cons.mpr ⟨⟨px_f61_86, _, _, rfl, rfl⟩, List.forall_mem_cons.mpr ⟨⟨px_f61_111, _, _, rfl, rfl⟩, List.forall_mem_cons.mpr ⟨⟨px_f61_139, _, _, rfl, rfl⟩, (fun _ h => absurd h List.not_mem_nil)⟩⟩⟩⟩⟩⟩
set_option maxRecDepth 20000 in
theorem px_ok62 : px_ok 62 := List.forall_mem_cons.mpr ⟨⟨px_f62_0, _, _, rfl, rfl⟩, List.forall_mem_cons.mpr ⟨⟨px_f62_32, _, _, rfl, rfl⟩, List.forall_mem_cons.mpr ⟨⟨px_f62_86, _, _, rfl, rfl⟩, List.forall_mem_cons.mpr ⟨⟨px_f62_92, _, _, rfl, rfl⟩, (fun _ h => absurd h List.not_mem_nil)⟩⟩⟩⟩
set_option maxRecDepth 20000 in
theorem px_ok63 : px_ok 63 := List.forall_mem_cons.mpr ⟨⟨px_f63_0, _, _, rfl, rfl⟩, List.forall_mem_cons.mpr ⟨⟨px_f63_30, _, _, rfl, rfl⟩, List.forall_mem_cons.mpr ⟨⟨px_f63_32, _, _, rfl, rfl⟩, (fun _ h => absurd h List.not_mem_nil)⟩⟩⟩
set_option maxRecDepth 20000 in
theorem px_ok64 : px_ok 64 := List.forall_mem_cons.mpr ⟨⟨px_f64_0, _, _, rfl, rfl⟩, List.forall_mem_cons.mpr ⟨⟨px_f64_6, _, _, rfl, rfl⟩, List.forall_mem_cons.mpr ⟨⟨px_f64_42, _, _, rfl, rfl⟩, List.forall_mem_cons.mpr ⟨⟨px_f64_48, _, _, rfl, rfl⟩, (fun _ h => absurd h List.not_mem_nil)⟩⟩⟩⟩
set_option maxRecDepth 20000 in
theorem px_ok65 : px_ok 65 := List.forall_mem_cons.mpr ⟨⟨px_f65_0, _, _, rfl, rfl⟩, List.forall_mem_cons.mpr ⟨⟨px_f65_6, _, _, rfl, rfl⟩, List.forall_mem_cons.mpr ⟨⟨px_f65_42, _, _, rfl, rfl⟩, List.forall_mem_cons.mpr ⟨⟨px_f65_43, _, _, rfl, rfl⟩, List.forall_mem_cons.mpr ⟨⟨px_f65_76, _, _, rfl, rfl⟩, List.forall_mem_cons.mpr ⟨⟨px_f65_82, _, _, rfl, rfl⟩, (fun _ h => absurd h List.not_mem_nil)⟩⟩⟩⟩⟩⟩
set_option maxRecDepth 20000 in
theorem px_ok66 : px_ok 66 := List.forall_mem_cons.mpr ⟨⟨px_f66_0, _, _, rfl, rfl⟩, List.forall_mem_cons.mpr ⟨⟨px_f66_9, _, _, rfl, rfl⟩, List.forall_mem_cons.mpr ⟨⟨px_f66_43, _, _, rfl, rfl⟩, List.forall_mem_cons.mpr ⟨⟨px_f66_44, _, _, rfl, rfl⟩, List.forall_mem_cons.mpr ⟨⟨px_f66_61, _, _, rfl, rfl⟩, List.forall_mem_cons.mpr ⟨⟨px_f66_67, _, _, rfl, rfl⟩, (fun _ h => absurd h List.not_mem_nil)⟩⟩⟩⟩⟩⟩
set_option maxRecDepth 20000 in
theorem px_ok67 : px_ok 67 := List.forall_mem_cons.mpr ⟨⟨px_f67_0, _, _, rfl, rfl⟩, List.forall_mem_cons.mpr ⟨⟨px_f67_36, _, _, rfl, rfl⟩, List.forall_mem_cons.mpr ⟨⟨px_f67_38, _, _, rfl, rfl⟩, List.forall_mem_cons.mpr ⟨⟨px_f67_88, _, _, rfl, rfl⟩, List.forall_mem_cons.mpr ⟨⟨px_f67_91, _, _, rfl, rfl⟩, List.forall_mem_cons.mpr ⟨⟨px_f67_96, _, _, rfl, rfl⟩, List.forall_mem_cons.mpr ⟨⟨px_f67_101, _, _, rfl, rfl⟩, (fun _ h => absurd h List.not_mem_nil)⟩⟩⟩⟩⟩⟩⟩
set_option maxRecDepth 20000 in
theorem px_ok68 : px_ok 68 := List.forall_mem_cons.mpr ⟨⟨px_f68_0, _, _, rfl, rfl⟩, List.forall_mem_cons.mpr ⟨⟨px_f68_5, _, _, rfl, rfl⟩, List.forall_mem_cons.mpr ⟨⟨px_f68_34, _, _, rfl, rfl⟩, (fun _ h => absurd h List.not_mem_nil)⟩⟩⟩
set_option maxRecDepth 20000 in
theorem px_ok69 : px_ok 69 := List.forall_mem_cons.mpr ⟨⟨px_f69_0, _, _, rfl, rfl⟩, List.forall_mem_cons.mpr ⟨⟨px_f69_5, _, _, rfl, rfl⟩, List.forall_mem_cons.mpr ⟨⟨px_f69_49, _, _, rfl, rfl⟩, List.forall_mem_cons.mpr ⟨⟨px_f69_55, _, _, rfl, rfl⟩, (fun _ h => absurd h List.not_mem_nil)⟩⟩⟩⟩
set_option maxRecDepth 20000 in
theorem px_ok70 : px_ok 70 := List.forall_mem_cons.mpr ⟨⟨px_f70_0, _, _, rfl, rfl⟩, List.forall_mem_cons.mpr ⟨⟨px_f70_4, _, _, rfl, rfl⟩, List.forall_mem_cons.mpr ⟨⟨px_f70_26, _, _, rfl, rfl⟩, List.forall_mem_cons.mpr ⟨⟨px_f70_59, _, _, rfl, rfl⟩, List.forall_mem_cons.mpr ⟨⟨px_f70_63, _, _, rfl, rfl⟩, List.forall_mem_cons.mpr ⟨⟨px_f70_84, _, _, rfl, rfl⟩, List.forall_mem_cons.mpr ⟨⟨px_f70_90, _, _, rfl, rfl⟩, (fun _ h => absurd h List.not_mem_nil)⟩⟩⟩⟩⟩⟩⟩
set_option maxRecDepth 20000 in
theorem px_ok71 : px_ok 71 := List.forall_mem_cons.mpr ⟨⟨px_f71_0, _, _, rfl, rfl⟩, List.forall_mem_cons.mpr ⟨⟨px_f71_9, _, _, rfl, rfl⟩, List.forall_mem_cons.mpr ⟨⟨px_f71_33, _, _, rfl, rfl⟩, List.forall_mem_cons.mpr ⟨⟨px_f71_73, _, _, rfl, rfl⟩, List.forall_mem_cons.mpr ⟨⟨px_f71_79, _, _, rfl, rfl⟩, List.forall_mem_cons.mpr ⟨⟨px_f71_88, _, _, rfl, rfl⟩, List.forall_mem_cons.mpr ⟨⟨px_f71_96, _, _, rfl, rfl⟩, (fun _ h => absurd h List.not_mem_nil)⟩⟩⟩⟩⟩⟩⟩
set_option maxRecDepth 20000 in
theorem px_ok72 : px_ok 72 := List.forall_mem_cons.mpr ⟨⟨px_f72_0, _, _, rfl, rfl⟩, (fun _ h => absurd h List.not_mem_nil)⟩
set_option maxRecDepth 20000 in
theorem px_ok73 : px_ok 73 := List.forall_mem_cons.mpr ⟨⟨px_f73_0, _, _, rfl, rfl⟩, List.forall_mem_cons.mpr ⟨⟨px_f73_12, _, _, rfl, rfl⟩, List.forall_mem_cons.mpr ⟨⟨px_f73_37, _, _, rfl, rfl⟩, List.forall_mem_cons.mpr ⟨⟨px_f73_60, _, _, rfl, rfl⟩, List.forall_mem_cons.mpr ⟨⟨px_f73_78, _, _, rfl, rfl⟩, List.forall_mem_cons.mpr ⟨⟨px_f73_94, _, _, rfl, rfl⟩, (fun _ h => absurd h List.not_mem_nil)⟩⟩⟩⟩⟩⟩
set_option maxRecDepth 20000 in
theorem px_ok74 : px_ok 74 := List.forall_mem_cons.mpr ⟨⟨px_f74_0, _, _, rfl, rfl⟩, List.forall_mem_cons.mpr ⟨⟨px_f74_26, _, _, rfl, rfl⟩, List.forall_mem_cons.mpr ⟨⟨px_f74_31, _, _, rfl, rfl⟩, List.forall_mem_cons.mpr ⟨⟨px_f74_42, _, _, rfl, rfl⟩, List.forall_mem_cons.mpr ⟨⟨px_f74_53, _, _, rfl, rfl⟩, List.forall_mem_cons.mpr ⟨⟨px_f74_82, _, _, rfl, rfl⟩, List.forall_mem_cons.mpr ⟨⟨px_f74_109, _, _, rfl, rfl⟩, List.forall_mem_cons.mpr ⟨⟨px_f74_115, _, _, rfl, rfl⟩, (fun _ h => absurd h List.not_mem_nil)⟩⟩⟩⟩⟩⟩⟩⟩
set_option maxRecDepth 20000 in
theorem px_ok75 : px_ok 75 := List.forall_mem_cons.mpr ⟨⟨px_f75_0, _, _, rfl, rfl⟩, List.forall_mem_cons.mpr ⟨⟨px_f75_7, _, _, rfl, rfl⟩, List.forall_mem_cons.mpr ⟨⟨px_f75_55, _, _, rfl, rfl⟩, List.forall_mem_cons.mpr ⟨⟨px_f75_61, _, _, rfl, rfl⟩, (fun _ h => absurd h List.not_mem_nil)⟩⟩⟩⟩
set_option maxRecDepth 20000 in
theorem px_ok76 : px_ok 76 := List.forall_mem_cons.mpr ⟨⟨px_f76_0, _, _, rfl, rfl⟩, List.forall_mem_cons.mpr ⟨⟨px_f76_2, _, _, rfl, rfl⟩, List.forall_mem_cons.mpr ⟨⟨px_f76_31, _, _, rfl, rfl⟩, (fun _ h => absurd h List.not_mem_nil)⟩⟩⟩
set_option maxRecDepth 20000 in
theorem px_ok77 : px_ok 77 := List.forall_mem_cons.mpr ⟨⟨px_f77_0, _, _, rfl, rfl⟩, List.forall_mem_cons.mpr ⟨⟨px_f77_6, _, _, rfl, rfl⟩, List.forall_mem_cons.mpr ⟨⟨px_f77_57, _, _, rfl, rfl⟩, List.forall_mem_cons.mpr ⟨⟨px_f77_81, _, _, rfl, rfl⟩, List.forall_mem_cons.mpr ⟨⟨px_f77_83, _, _, rfl, rfl⟩, (fun _ h => absurd h List.not_mem_nil)⟩⟩⟩⟩⟩
set_option maxRecDepth 20000 in
theorem px_ok78 : px_ok 78 := List.forall_mem_cons.mpr ⟨⟨px_f78_0, _, _, rfl, rfl⟩, List.forall_mem_cons.mpr ⟨⟨px_f78_16, _, _, rfl, rfl⟩, List.forall_mem_cons.mpr ⟨⟨px_f78_17, _, _, rfl, rfl⟩, (fun _ h => absurd h List.not_mem_nil)⟩⟩⟩
set_option maxRecDepth 20000 in
theorem px_ok79 : px_ok 79 := List.forall_mem_cons.mpr ⟨⟨px_f79_0, _, _, rfl, rfl⟩, (fun _ h => absurd h List.not_mem_nil)⟩
set_option maxRecDepth 20000 in
theorem px_ok80 : px_ok 80 := List.forall_mem_cons.mpr ⟨⟨px_f80_0, _, _, rfl, rfl⟩, List.forall_mem_cons.mpr ⟨⟨px_f80_15, _, _, rfl, rfl⟩, List.forall_mem_cons.mpr ⟨⟨px_f80_16, _, _, rfl, rfl⟩, (fun _ h => absurd h List.not_mem_nil)⟩⟩⟩
set_option maxRecDepth 20000 in
theorem px_ok81 : px_ok 81 := List.forall_mem_cons.mpr ⟨⟨px_f81_0, _, _, rfl, rfl⟩, List.forall_mem_cons.mpr ⟨⟨px_f81_16, _, _, rfl, rfl⟩, List.forall_mem_cons.mpr ⟨⟨px_f81_17, _, _, rfl, rfl⟩, (fun _ h => absurd h List.not_mem_nil)⟩⟩⟩
set_option maxRecDepth 20000 in
theorem px_ok82 : px_ok 82 := List.forall_mem_cons.mpr ⟨⟨px_f82_0, _, _, rfl, rfl⟩, List.forall_mem_cons.mpr ⟨⟨px_f82_25, _, _, rfl, rfl⟩, List.forall_mem_cons.mpr ⟨⟨px_f82_26, _, _, rfl, rfl⟩, List.forall_mem_cons.mpr ⟨⟨px_f82_44, _, _, rfl, rfl⟩, List.forall_mem_cons.mpr ⟨⟨px_f82_45, _, _, rfl, rfl⟩, (fun _ h => absurd h List.not_mem_nil)⟩⟩⟩⟩⟩
set_option maxRecDepth 20000 in
theorem px_ok83 : px_ok 83 := List.forall_mem_cons.mpr ⟨⟨px_f83_0, _, _, rfl, rfl⟩, List.forall_mem_cons.mpr ⟨⟨px_f83_28, _, _, rfl, rfl⟩, (fun _ h => absurd h List.not_mem_nil)⟩⟩
set_option maxRecDepth 20000 in
theorem px_ok84 : px_ok 84 := List.forall_mem_cons.mpr ⟨⟨px_f84_0, _, _, rfl, rfl⟩, List.forall_mem_cons.mpr ⟨⟨px_f84_9, _, _, rfl, rfl⟩, (fun _ h => absurd h List.not_mem_nil)⟩⟩
set_option maxRecDepth 20000 in
theorem px_ok85 : px_ok 85 := List.forall_mem_cons.mpr ⟨⟨px_f85_0, _, _, rfl, rfl⟩, (fun _ h => absurd h List.not_mem_nil)⟩
set_option maxRecDepth 20000 in
theorem px_ok86 : px_ok 86 := List.forall_mem_cons.mpr ⟨⟨px_f86_0, _, _, rfl, rfl⟩, List.forall_mem_cons.mpr ⟨⟨px_f86_110, _, _, rfl, rfl⟩, List.forall_mem_cons.mpr ⟨⟨px_f86_135, _, _, rfl, rfl⟩, (fun _ h => absurd h List.not_mem_nil)⟩⟩⟩
set_option maxRecDepth 20000 in
theorem px_ok87 : px_ok 87 := List.forall_mem_cons.mpr ⟨⟨px_f87_0, _, _, rfl, rfl⟩, List.forall_mem_cons.mpr ⟨⟨px_f87_13, _, _, rfl, rfl⟩, List.forall_mem_cons.mpr ⟨⟨px_f87_24, _, _, rfl, rfl⟩, List.forall_mem_cons.mpr ⟨⟨px_f87_33, _, _, rfl, rfl⟩, List.forall_mem_cons.mpr ⟨⟨px_f87_40, _, _, rfl, rfl⟩, List.forall_mem_cons.mpr ⟨⟨px_f87_53, _, _, rfl, rfl⟩, (fun _ h => absurd h List.not_mem_nil)⟩⟩⟩⟩⟩⟩
set_option maxRecDepth 20000 in
theorem px_ok88 : px_ok 88 := List.forall_mem_cons.mpr ⟨⟨px_f88_0, _, _, rfl, rfl⟩, List.forall_mem_cons.mpr ⟨⟨px_f88_19, _, _, rfl, rfl⟩, List.forall_mem_cons.mpr ⟨⟨px_f88_39, _, _, rfl, rfl⟩, (fun _ h => absurd h List.not_mem_nil)⟩⟩⟩
set_option maxRecDepth 20000 in
theorem px_ok89 : px_ok 89 := List.forall_mem_cons.mpr ⟨⟨px_f89_0, _, _, rfl, rfl⟩, List.forall_mem_cons.mpr ⟨⟨px_f89_14, _, _, rfl, rfl⟩, List.forall_mem_cons.mpr ⟨⟨px_f89_20, _, _, rfl, rfl⟩, List.forall_mem_cons.mpr ⟨⟨px_f89_52, _, _, rfl, rfl⟩, List.forall_mem_cons.mpr ⟨⟨px_f89_59, _, _, rfl, rfl⟩, List.forall_mem_cons.mpr ⟨⟨px_f89_95, _, _, rfl, rfl⟩, List.forall_mem_cons.mpr ⟨⟨px_f89_111, _, _, rfl, rfl⟩, List.forall_mem_cons.mpr ⟨⟨px_f89_118, _, _, rfl, rfl⟩, List.forall_mem_cons.mpr ⟨⟨px_f89_130, _, _, rfl, rfl⟩, List.forall_mem_cons.mpr ⟨⟨px_f89_153, _, _, rfl, rfl⟩, List.forall_mem_cons.mpr ⟨⟨px_f89_160, _, _, rfl, rfl⟩, (fun _ h => absurd h List.not_mem_nil)⟩⟩⟩⟩⟩⟩⟩⟩⟩⟩⟩
set_option maxRecDepth 20000 in
theorem px_ok90 : px_ok 90 := List.forall_mem_cons.mpr ⟨⟨px_f90_0, _, _, rfl, rfl⟩, List.forall_mem_cons.mpr ⟨⟨px_f90_19, _, _, rfl, rfl⟩, List.forall_mem_cons.mpr ⟨⟨px_f90_21, _, _, rfl, rfl⟩, (fun _ h => absurd h List.not_mem_nil)⟩⟩⟩
set_option maxRecDepth 20000 in
theorem px_ok91 : px_ok 91 := List.forall_mem_cons.mpr ⟨⟨px_f91_0, _, _, rfl, rfl⟩, List.forall_mem_cons.mpr ⟨⟨px_f91_18, _, _, rfl, rfl⟩, List.forall_mem_cons.mpr ⟨⟨px_f91_24, _, _, rfl, rfl⟩, List.forall_mem_cons.mpr ⟨⟨px_f91_40, _, _, rfl, rfl⟩, List.forall_mem_cons.mpr ⟨⟨px_f91_55, _, _, rfl, rfl⟩, (fun _ h => absurd h List.not_mem_nil)⟩⟩⟩⟩⟩
set_option maxRecDepth 20000 in
theorem px_ok92 : px_ok 92 := List.forall_mem_cons.mpr ⟨⟨px_f92_0, _, _, rfl, rfl⟩, List.forall_mem_cons.mpr ⟨⟨px_f92_19, _, _, rfl, rfl⟩, List.forall_mem_cons.mpr ⟨⟨px_f92_20, _, _, rfl, rfl⟩, (fun _ h => absurd h List.not_mem_nil)⟩⟩⟩
set_option maxRecDepth 20000 in
theorem px_ok93 : px_ok 93 := List.forall_mem_cons.mpr ⟨⟨px_f93_0, _, _, rfl, rfl⟩, List.forall_mem_cons.mpr ⟨⟨px_f93_10, _, _, rfl, rfl⟩, List.forall_mem_cons.mpr ⟨⟨px_f93_16, _, _, rfl, rfl⟩, List.forall_mem_cons.mpr ⟨⟨px_f93_32, _, _, rfl, rfl⟩, List.forall_mem_cons.mpr ⟨⟨px_f93_56, _, _, rfl, rfl⟩, List.forall_mem_cons.mpr ⟨⟨px_f93_92, _, _, rfl, rfl⟩, List.forall_mem_cons.mpr ⟨⟨px_f93_105, _, _, rfl, rfl⟩, List.forall_mem_cons.mpr ⟨⟨px_f93_115, _, _, rfl, rfl⟩, List.forall_mem_cons.mpr ⟨⟨px_f93_121, _, _, rfl, rfl⟩, (fun _ h => absurd h List.not_mem_nil)⟩⟩⟩⟩⟩⟩⟩⟩⟩
set_option maxRecDepth 20000 in
theorem px_ok94 : px_ok 94 := List.forall_mem_cons.mpr ⟨⟨px_f94_0, _, _, rfl, rfl⟩, List.forall_mem_cons.mpr ⟨⟨px_f94_18, _, _, rfl, rfl⟩, List.forall_mem_cons.mpr ⟨⟨px_f94_25, _, _, rfl, rfl⟩, List.forall_mem_cons.mpr ⟨⟨px_f94_44, _, _, rfl, rfl⟩, List.forall_mem_cons.mpr ⟨⟨px_f94_51, _, _, rfl, rfl⟩, List.forall_mem_cons.mpr ⟨⟨px_f94_71, _, _, rfl, rfl⟩, (fun _ h => absurd h List.not_mem_nil)⟩⟩⟩⟩⟩⟩
set_option maxRecDepth 20000 in
theorem px_ok95 : px_ok 95 := List.forall_mem_cons.mpr ⟨⟨px_f95_0, _, _, rfl, rfl⟩, List.forall_mem_cons.mpr ⟨⟨px_f95_13, _, _, rfl, rfl⟩, List.forall_mem_cons.mpr ⟨⟨px_f95_29, _, _, rfl, rfl⟩, List.forall_mem_cons.mpr ⟨⟨px_f95_49, _, _, rfl, rfl⟩, (fun _ h => absurd h List.not_mem_nil)⟩⟩⟩⟩
set_option maxRecDepth 20000 in
theorem px_ok96 : px_ok 96 := List.forall_mem_cons.mpr ⟨⟨px_f96_0, _, _, rfl, rfl⟩, List.forall_mem_cons.mpr ⟨⟨px_f96_16, _, _, rfl, rfl⟩, List.forall_mem_cons.mpr ⟨⟨px_f96_22, _, _, rfl, rfl⟩, List.forall_mem_cons.mpr ⟨⟨px_f96_36, _, _, rfl, rfl⟩, List.forall_mem_cons.mpr ⟨⟨px_f96_51, _, _, rfl, rfl⟩, List.forall_mem_cons.mpr ⟨⟨px_f96_58, _, _, rfl, rfl⟩, List.forall_mem_cons.mpr ⟨⟨px_f96_73, _, _, rfl, rfl⟩, (fun _ h => absurd h List.not_mem_nil)⟩⟩⟩⟩⟩⟩⟩
set_option maxRecDepth 20000 in
theorem px_ok97 : px_ok 97 := List.forall_mem_cons.mpr ⟨⟨px_f97_0, _, _, rfl, rfl⟩, List.forall_mem_cons.mpr ⟨⟨px_f97_13, _, _, rfl, rfl⟩, List.forall_mem_cons.mpr ⟨⟨px_f97_30, _, _, rfl, rfl⟩, List.forall_mem_cons.mpr ⟨⟨px_f97_50, _, _, rfl, rfl⟩, (fun _ h => absurd h List.not_mem_nil)⟩⟩⟩⟩
set_option maxRecDepth 20000 in
theorem px_ok98 : px_ok 98 := List.forall_mem_cons.mpr ⟨⟨px_f98_0, _, _, rfl, rfl⟩, List.forall_mem_cons.mpr ⟨⟨px_f98_13, _, _, rfl, rfl⟩, List.forall_mem_cons.mpr ⟨⟨px_f98_33, _, _, rfl, rfl⟩, List.forall_mem_cons.mpr ⟨⟨px_f98_40, _, _, rfl, rfl⟩, List.forall_mem_cons.mpr ⟨⟨px_f98_60, _, _, rfl, rfl⟩, (fun _ h => absurd h List.not_mem_nil)⟩⟩⟩⟩⟩
set_option maxRecDepth 20000 in
theorem px_ok99 : px_ok 99 := List.forall_mem_cons.mpr ⟨⟨px_f99_0, _, _, rfl, rfl⟩, List.forall_mem_cons.mpr ⟨⟨px_f99_18, _, _, rfl, rfl⟩, List.forall_mem_cons.mpr ⟨⟨px_f99_25, _, _, rfl, rfl⟩, (fun _ h => absurd h List.not_mem_nil)⟩⟩⟩
set_option maxRecDepth 20000 in
theorem px_ok100 : px_ok 100 := List.forall_mem_cons.mpr ⟨⟨px_f100_0, _, _, rfl, rfl⟩, List.forall_mem_cons.mpr ⟨⟨px_f100_16, _, _, rfl, rfl⟩, List.forall_mem_cons.mpr ⟨⟨px_f100_63, _, _, rfl, rfl⟩, (fun _ h => absurd h List.not_mem_nil)⟩⟩⟩
set_option maxRecDepth 20000 in
theorem px_ok101 : px_ok 101 := List.forall_mem_cons.mpr ⟨⟨px_f101_0, _, _, rfl, rfl⟩, (fun _ h => absurd h List.not_mem_nil)⟩
set_option maxRecDepth 20000 in
theorem px_ok102 : px_ok 102 := List.forall_mem_cons.mpr ⟨⟨px_f102_0, _, _, rfl, rfl⟩, List.forall_mem_cons.mpr ⟨⟨px_f102_23, _, _, rfl, rfl⟩, List.forall_mem_cons.mpr ⟨⟨px_f102_30, _, _, rfl, rfl⟩, (fun _ h => absurd h List.not_mem_nil)⟩⟩⟩
set_option maxRecDepth 20000 in
theorem px_ok103 : px_ok 103 := List.forall_mem_cons.mpr ⟨⟨px_f103_0, _, _, rfl, rfl⟩, List.forall_mem_cons.mpr ⟨⟨px_f103_23, _, _, rfl, rfl⟩, List.forall_mem_cons.mpr ⟨⟨px_f103_30, _, _, rfl, rfl⟩, (fun _ h => absurd h List.not_mem_nil)⟩⟩⟩
set_option maxRecDepth 20000 in
theorem px_ok104 : px_ok 104 := List.forall_mem_cons.mpr ⟨⟨px_f104_0, _, _, rfl, rfl⟩, List.forall_mem_cons.mpr ⟨⟨px_f104_33, _, _, rfl, rfl⟩, List.forall_mem_cons.mpr ⟨⟨px_f104_37, _, _, rfl, rfl⟩, List.forall_mem_cons.mpr ⟨⟨px_f104_38, _, _, rfl, rfl⟩, List.forall_mem_cons.mpr ⟨⟨px_f104_49, _, _, rfl, rfl⟩, (fun _ h => absurd h List.not_mem_nil)⟩⟩⟩⟩⟩
set_option maxRecDepth 20000 in
theorem px_ok105 : px_ok 105 := List.forall_mem_cons.mpr ⟨⟨px_f105_0, _, _, rfl, rfl⟩, List.forall_mem_cons.mpr ⟨⟨px_f105_20, _, _, rfl, rfl⟩, List.forall_mem_cons.mpr ⟨⟨px_f105_38, _, _, rfl, rfl⟩, List.forall_mem_cons.mpr ⟨⟨px_f105_64, _, _, rfl, rfl⟩, List.forall_mem_cons.mpr ⟨⟨px_f105_65, _, _, rfl, rfl⟩, List.forall_mem_cons.mpr ⟨⟨px_f105_77, _, _, rfl, rfl⟩, List.forall_mem_cons.mpr ⟨⟨px_f105_78, _, _, rfl, rfl⟩, (fun _ h => absurd h List.not_mem_nil)⟩⟩⟩⟩⟩⟩⟩
set_option maxRecDepth 20000 in
theorem px_ok106 : px_ok 106 := List.forall_mem_cons.mpr ⟨⟨px_f106_0, _, _, rfl, rfl⟩, List.forall_mem_cons.mpr ⟨⟨px_f106_25, _, _, rfl, rfl⟩, List.forall_mem_cons.mpr ⟨⟨px_f106_26, _, _, rfl, rfl⟩, List.forall_mem_cons.mpr ⟨⟨px_f106_43, _, _, rfl, rfl⟩, (fun _ h => absurd h List.not_mem_nil)⟩⟩⟩⟩
set_option maxRecDepth 20000 in
theorem px_ok107 : px_ok 107 := List.forall_mem_cons.mpr ⟨⟨px_f107_0, _, _, rfl, rfl⟩, List.forall_mem_cons.mpr ⟨⟨px_f107_25, _, _, rfl, rfl⟩, List.forall_mem_cons.mpr ⟨⟨px_f107_26, _, _, rfl, rfl⟩, List.forall_mem_cons.mpr ⟨⟨px_f107_43, _, _, rfl, rfl⟩, (fun _ h => absurd h List.not_mem_nil)⟩⟩⟩⟩
set_option maxRecDepth 20000 in
theorem px_ok108 : px_ok 108 := List.forall_mem_cons.mpr ⟨⟨px_f108_0, _, _, rfl, rfl⟩, List.forall_mem_cons.mpr ⟨⟨px_f108_21, _, _, rfl, rfl⟩, List.forall_mem_cons.mpr ⟨⟨px_f108_22, _, _, rfl, rfl⟩, List.forall_mem_cons.mpr ⟨⟨px_f108_39, _, _, rfl, rfl⟩, (fun _ h => absurd h List.not_mem_nil)⟩⟩⟩⟩
set_option maxRecDepth 20000 in
theorem px_ok109 : px_ok 109 := List.forall_mem_cons.mpr ⟨⟨px_f109_0, _, _, rfl, rfl⟩, List.forall_mem_cons.mpr ⟨⟨px_f109_21, _, _, rfl, rfl⟩, List.forall_mem_cons.mpr ⟨⟨px_f109_22, _, _, rfl, rfl⟩, List.forall_mem_cons.mpr ⟨⟨px_f109_39, _, _, rfl, rfl⟩, List.forall_mem_cons.mpr ⟨⟨px_f109_62, _, _, rfl, rfl⟩, List.forall_mem_cons.mpr ⟨⟨px_f109_75, _, _, rfl, rfl⟩, (fun _ h => absurd h List.not_mem_nil)⟩⟩⟩⟩⟩⟩
set_option maxRecDepth 20000 in
theorem px_ok110 : px_ok 110 := List.forall_mem_cons.mpr ⟨⟨px_f110_0, _, _, rfl, rfl⟩, List.forall_mem_cons.mpr ⟨⟨px_f110_25, _, _, rfl, rfl⟩, List.forall_mem_cons.mpr ⟨⟨px_f110_31, _, _, rfl, rfl⟩, (fun _ h => absurd h List.not_mem_nil)⟩⟩⟩
set_option maxRecDepth 20000 in
theorem px_ok111 : px_ok 111 := List.forall_mem_cons.mpr ⟨⟨px_f111_0, _, _, rfl, rfl⟩, (fun _ h => absurd h List.not_mem_nil)⟩
set_option maxRecDepth 20000 in
theorem px_ok112 : px_ok 112 := List.forall_mem_cons.mpr ⟨⟨px_f112_0, _, _, rfl, rfl⟩, (fun _ h => absurd h List.not_mem_nil)⟩
set_option maxRecDepth 20000 in
theorem px_ok113 : px_ok 113 := List.forall_mem_cons.mpr ⟨⟨px_f113_0, _, _, rfl, rfl⟩, (fun _ h => absurd h List.not_mem_nil)⟩
set_option maxRecDepth 20000 in
theorem px_ok114 : px_ok 114 := List.forall_mem_cons.mpr ⟨⟨px_f114_0, _, _, rfl, rfl⟩, List.forall_mem_cons.mpr ⟨⟨px_f114_20, _, _, rfl, rfl⟩, List.forall_mem_cons.mpr ⟨⟨px_f114_34, _, _, rfl, rfl⟩, (fun _ h => absurd h List.not_mem_nil)⟩⟩⟩
set_option maxRecDepth 20000 in
theorem px_ok115 : px_ok 115 := List.forall_mem_cons.mpr ⟨⟨px_f115_0, _, _, rfl, rfl⟩, List.forall_mem_cons.mpr ⟨⟨px_f115_14, _, _, rfl, rfl⟩, List.forall_mem_cons.mpr ⟨⟨px_f115_21, _, _, rfl, rfl⟩, List.forall_mem_cons.mpr ⟨⟨px_f115_73, _, _, rfl, rfl⟩, List.forall_mem_cons.mpr ⟨⟨px_f115_97, _, _, rfl, rfl⟩, List.forall_mem_cons.mpr ⟨⟨px_f115_103, _, _, rfl, rfl⟩, List.forall_mem_cons.mpr ⟨⟨px_f115_109, _, _, rfl, rfl⟩, List.forall_mem_cons.mpr ⟨⟨px_f115_123, _, _, rfl, rfl⟩, List.forall_mem_cons.mpr ⟨⟨px_f115_124, _, _, rfl, rfl⟩, (fun _ h => absurd h List.not_mem_nil)⟩⟩⟩⟩⟩⟩⟩⟩⟩
set_option maxRecDepth 20000 in
theorem px_ok116 : px_ok 116 := List.forall_mem_cons.mpr ⟨⟨px_f116_0, _, _, rfl, rfl⟩, List.forall_mem_cons.mpr ⟨⟨px_f116_20, _, _, rfl, rfl⟩, List.forall_mem_cons.mpr ⟨⟨px_f116_24, _, _, rfl, rfl⟩, List.forall_mem_cons.mpr ⟨⟨px_f116_55, _, _, rfl, rfl⟩, List.forall_mem_cons.mpr ⟨⟨px_f116_61, _, _, rfl, rfl⟩, (fun _ h => absurd h List.not_mem_nil)⟩⟩⟩⟩⟩
set_option maxRecDepth 20000 in
theorem px_ok117 : px_ok 117 := List.forall_mem_cons.mpr ⟨⟨px_f117_0, _, _, rfl, rfl⟩, List.forall_mem_cons.mpr ⟨⟨px_f117_6, _, _, rfl, rfl⟩, List.forall_mem_cons.mpr ⟨⟨px_f117_63, _, _, rfl, rfl⟩, List.forall_mem_cons.mpr ⟨⟨px_f117_68, _, _, rfl, rfl⟩, List.forall_mem_cons.mpr ⟨⟨px_f117_74, _, _, rfl, rfl⟩, (fun _ h => absurd h List.not_mem_nil)⟩⟩⟩⟩⟩
set_option maxRecDepth 20000 in
theorem px_ok118 : px_ok 118 := List.forall_mem_cons.mpr ⟨⟨px_f118_0, _, _, rfl, rfl⟩, List.forall_mem_cons.mpr ⟨⟨px_f118_27, _, _, rfl, rfl⟩, (fun _ h => absurd h List.not_mem_nil)⟩⟩
set_option maxRecDepth 20000 in
theorem px_ok119 : px_ok 119 := List.forall_mem_cons.mpr ⟨⟨px_f119_0, _, _, rfl, rfl⟩, List.forall_mem_cons.mpr ⟨⟨px_f119_20, _, _, rfl, rfl⟩, List.forall_mem_cons.mpr ⟨⟨px_f119_34, _, _, rfl, rfl⟩, List.forall_mem_cons.mpr ⟨⟨px_f119_59, _, _, rfl, rfl⟩, List.forall_mem_cons.mpr ⟨⟨px_f119_87, _, _, rfl, rfl⟩, List.forall_mem_cons.mpr ⟨⟨px_f119_132, _, _, rfl, rfl⟩, List.forall_mem_cons.mpr ⟨⟨px_f119_138, _, _, rfl, rfl⟩, (fun _ h => absurd h List.not_mem_nil)⟩⟩⟩⟩⟩⟩⟩
set_option maxRecDepth 20000 in
theorem px_ok120 : px_ok 120 := List.forall_mem_cons.mpr ⟨⟨px_f120_0, _, _, rfl, rfl⟩, List.forall_mem_cons.mpr ⟨⟨px_f120_14, _, _, rfl, rfl⟩, List.forall_mem_cons.mpr ⟨⟨px_f120_39, _, _, rfl, rfl⟩, List.forall_mem_cons.mpr ⟨⟨px_f120_72, _, _, rfl, rfl⟩, List.forall_mem_cons.mpr ⟨⟨px_f120_80, _, _, rfl, rfl⟩, (fun _ h => absurd h List.not_mem_nil)⟩⟩⟩⟩⟩
set_option maxRecDepth 20000 in
theorem px_ok121 : px_ok 121 := List.forall_mem_cons.mpr ⟨⟨px_f121_0, _, _, rfl, rfl⟩, List.forall_mem_cons.mpr ⟨⟨px_f121_12, _, _, rfl, rfl⟩, List.forall_mem_cons.mpr ⟨⟨px_f121_19, _, _, rfl, rfl⟩, List.forall_mem_cons.mpr ⟨⟨px_f121_34, _, _, rfl, rfl⟩, List.forall_mem_cons.mpr ⟨⟨px_f121_42, _, _, rfl, rfl⟩, (fun _ h => absurd h List.not_mem_nil)⟩⟩⟩⟩⟩
set_option maxRecDepth 20000 in
theorem px_ok122 : px_ok 122 := List.forall_mem_cons.mpr ⟨⟨px_f122_0, _, _, rfl, rfl⟩, List.forall_mem_cons.mpr ⟨⟨px_f122_25, _, _, rfl, rfl⟩, List.forall_mem_cons.mpr ⟨⟨px_f122_31, _, _, rfl, rfl⟩, List.forall_mem_cons.mpr ⟨⟨px_f122_36, _, _, rfl, rfl⟩, List.forall_mem_cons.mpr ⟨⟨px_f122_64, _, _, rfl, rfl⟩, List.forall_mem_cons.mpr ⟨⟨px_f122_65, _, _, rfl, rfl⟩, List.forall_mem_cons.mpr ⟨⟨px_f122_88, _, _, rfl, rfl⟩, List.forall_mem_cons.mpr ⟨⟨px_f122_94, _, _, rfl, rfl⟩, (fun _ h => absurd h List.not_mem_nil)⟩⟩⟩⟩⟩⟩⟩⟩
set_option maxRecDepth 20000 in
theorem px_ok123 : px_ok 123 := List.forall_mem_cons.mpr ⟨⟨px_f123_0, _, _, rfl, rfl⟩, List.forall_mem_cons.mpr ⟨⟨px_f123_25, _, _, rfl, rfl⟩, List.forall_mem_cons.mpr ⟨⟨px_f123_31, _, _, rfl, rfl⟩, List.forall_mem_cons.mpr ⟨⟨px_f123_33, _, _, rfl, rfl⟩, List.forall_mem_cons.mpr ⟨⟨px_f123_64, _, _, rfl, rfl⟩, List.forall_mem_cons.mpr ⟨⟨px_f123_65, _, _, rfl, rfl⟩, List.forall_mem_cons.mpr ⟨⟨px_f123_74, _, _, rfl, rfl⟩, (fun _ h => absurd h List.not_mem_nil)⟩⟩⟩⟩⟩⟩⟩
set_option maxRecDepth 20000 in
theorem px_ok124 : px_ok 124 := List.forall_mem_cons.mpr ⟨⟨px_f124_0, _, _, rfl, rfl⟩, List.forall_mem_cons.mpr ⟨⟨px_f124_14, _, _, rfl, rfl⟩, List.forall_mem_cons.mpr ⟨⟨px_f124_20, _, _, rfl, rfl⟩, List.forall_mem_cons.mpr ⟨⟨px_f124_52, _, _, rfl, rfl⟩, List.forall_mem_cons.mpr ⟨⟨px_f124_59, _, _, rfl, rfl⟩, List.forall_mem_cons.mpr ⟨⟨px_f124_75, _, _, rfl, rfl⟩, List.forall_mem_cons.mpr ⟨⟨px_f124_82, _, _, rfl, rfl⟩, List.forall_mem_cons.mpr ⟨⟨px_f124_96, _, _, rfl, rfl⟩, List.forall_mem_cons.mpr ⟨⟨px_f124_99, _, _, rfl, rfl⟩, List.forall_mem_cons.mpr ⟨⟨px_f124_129, _, _, rfl, rfl⟩, List.forall_mem_cons.mpr ⟨⟨px_f124_135, _, _, rfl, rfl⟩, (fun _ h => absurd h List.not_mem_nil)⟩⟩⟩⟩⟩⟩⟩⟩⟩⟩⟩
set_option maxRecDepth 20000 in
theorem px_ok125 : px_ok 125 := List.forall_mem_cons.mpr ⟨⟨px_f125_0, _, _, rfl, rfl⟩, List.forall_mem_cons.mpr ⟨⟨px_f125_26, _, _, rfl, rfl⟩, List.forall_mem_cons.mpr ⟨⟨px_f125_28, _, _, rfl, rfl⟩, List.forall_mem_cons.mpr ⟨⟨px_f125_80, _, _, rfl, rfl⟩, List.forall_mem_cons.mpr ⟨⟨px_f125_89, _, _, rfl, rfl⟩, List.forall_mem_cons.mpr ⟨⟨px_f125_98, _, _, rfl, rfl⟩, List.forall_mem_cons.mpr ⟨⟨px_f125_107, _, _, rfl, rfl⟩, (fun _ h => absurd h List.not_mem_nil)⟩⟩⟩⟩⟩⟩⟩
set_option maxRecDepth 20000 in
theorem px_ok126 : px_ok 126 := List.forall_mem_cons.mpr ⟨⟨px_f126_0, _, _, rfl, rfl⟩, (fun _ h => absurd h List.not_mem_nil)⟩
set_option maxRecDepth 20000 in
theorem px_ok127 : px_ok 127 := List.forall_mem_cons.mpr ⟨⟨px_f127_0, _, _, rfl, rfl⟩, (fun _ h => absurd h List.not_mem_nil)⟩
set_option maxRecDepth 20000 in
theorem px_ok128 : px_ok 128 := List.forall_mem_cons.mpr ⟨⟨px_f128_0, _, _, rfl, rfl⟩, List.forall_mem_cons.mpr ⟨⟨px_f128_14, _, _, rfl, rfl⟩, (fun _ h => absurd h List.not_mem_nil)⟩⟩
set_option maxRecDepth 20000 in
theorem px_ok129 : px_ok 129 := List.forall_mem_cons.mpr ⟨⟨px_f129_0, _, _, rfl, rfl⟩, List.forall_mem_cons.mpr ⟨⟨px_f129_56, _, _, rfl, rfl⟩, List.forall_mem_cons.mpr ⟨⟨px_f129_67, _, _, rfl, rfl⟩, List.forall_mem_cons.mpr ⟨⟨px_f129_78, _, _, rfl, rfl⟩, List.forall_mem_cons.mpr ⟨⟨px_f129_89, _, _, rfl, rfl⟩, List.forall_mem_cons.mpr ⟨⟨px_f129_110, _, _, rfl, rfl⟩, List.forall_mem_cons.mpr ⟨⟨px_f129_121, _, _, rfl, rfl⟩, List.forall_mem_cons.mpr ⟨⟨px_f129_132, _, _, rfl, rfl⟩, List.forall_mem_cons.mpr ⟨⟨px_f129_143, _, _, rfl, rfl⟩, List.forall_mem_cons.mpr ⟨⟨px_f129_154, _, _, rfl, rfl⟩, List.forall_mem_cons.mpr ⟨⟨px_f129_165, _, _, rfl, rfl⟩, List.forall_mem_cons.mpr ⟨⟨px_f129_173, _, _, rfl, rfl⟩, List.forall_mem_cons.mpr ⟨⟨px_f129_197, _, _, rfl, rfl⟩, List.forall_mem_cons.mpr ⟨⟨px_f129_198, _, _, rfl, rfl⟩, (fun _ h => absurd h List.not_mem_nil)⟩⟩⟩⟩⟩⟩⟩⟩⟩⟩⟩⟩⟩⟩
set_option maxRecDepth 20000 in
theorem px_ok130 : px_ok 130 := List.forall_mem_cons.mpr ⟨⟨px_f130_0, _, _, rfl, rfl⟩, List.forall_mem_cons.mpr ⟨⟨px_f130_22, _, _, rfl, rfl⟩, (fun _ h => absurd h List.not_mem_nil)⟩⟩
set_option maxRecDepth 20000 in
theorem px_ok131 : px_ok 131 := List.forall_mem_cons.mpr ⟨⟨px_f131_0, _, _, rfl, rfl⟩, (fun _ h => absurd h List.not_mem_nil)⟩
set_option maxRecDepth 20000 in
theorem px_ok132 : px_ok 132 := List.forall_mem_cons.mpr ⟨⟨px_f132_0, _, _, rfl, rfl⟩, List.forall_mem_cons.mpr ⟨⟨px_f132_9, _, _, rfl, rfl⟩, List.forall_mem_cons.mpr ⟨⟨px_f132_24, _, _, rfl, rfl⟩, List.forall_mem_cons.mpr ⟨⟨px_f132_40, _, _, rfl, rfl⟩, List.forall_mem_cons.mpr ⟨⟨px_f132_42, _, _, rfl, rfl⟩, (fun _ h => absurd h List.not_mem_nil)⟩⟩⟩⟩⟩
set_option maxRecDepth 20000 in
theorem px_ok133 : px_ok 133 := List.forall_mem_cons.mpr ⟨⟨px_f133_0, _, _, rfl, rfl⟩, List.forall_mem_cons.mpr ⟨⟨px_f133_9, _, _, rfl, rfl⟩, List.forall_mem_cons.mpr ⟨⟨px_f133_24, _, _, rfl, rfl⟩, List.forall_mem_cons.mpr ⟨⟨px_f133_40, _, _, rfl, rfl⟩, List.forall_mem_cons.mpr ⟨⟨px_f133_42, _, _, rfl, rfl⟩, (fun _ h => absurd h List.not_mem_nil)⟩⟩⟩⟩⟩
set_option maxRecDepth 20000 in
theorem px_ok134 : px_ok 134 := List.forall_mem_cons.mpr ⟨⟨px_f134_0, _, _, rfl, rfl⟩, List.forall_mem_cons.mpr ⟨⟨px_f134_6, _, _, rfl, rfl⟩, List.forall_mem_cons.mpr ⟨⟨px_f134_21, _, _, rfl, rfl⟩, List.forall_mem_cons.mpr ⟨⟨px_f134_29, _, _, rfl, rfl⟩, List.forall_mem_cons.mpr ⟨⟨px_f134_31, _, _, rfl, rfl⟩, (fun _ h => absurd h List.not_mem_nil)⟩⟩⟩⟩⟩
set_option maxRecDepth 20000 in
theorem px_ok135 : px_ok 135 := List.forall_mem_cons.mpr ⟨⟨px_f135_0, _, _, rfl, rfl⟩, List.forall_mem_cons.mpr ⟨⟨px_f135_20, _, _, rfl, rfl⟩, List.forall_mem_cons.mpr ⟨⟨px_f135_34, _, _, rfl, rfl⟩, List.forall_mem_cons.mpr ⟨⟨px_f135_76, _, _, rfl, rfl⟩, List.forall_mem_cons.mpr ⟨⟨px_f135_78, _, _, rfl, rfl⟩, (fun _ h => absurd h List.not_mem_nil)⟩⟩⟩⟩⟩
set_option maxRecDepth 20000 in
theorem px_ok136 : px_ok 136 := List.forall_mem_cons.mpr ⟨⟨px_f136_0, _, _, rfl, rfl⟩, (fun _ h => absurd h List.not_mem_nil)⟩
set_option maxRecDepth 20000 in
theorem px_ok137 : px_ok 137 := List.forall_mem_cons.mpr ⟨⟨px_f137_0, _, _, rfl, rfl⟩, (fun _ h => absurd h List.not_mem_nil)⟩
set_option maxRecDepth 20000 in
theorem px_ok138 : px_ok 138 := List.forall_mem_cons.mpr ⟨⟨px_f138_0, _, _, rfl, rfl⟩, List.forall_mem_cons.mpr ⟨⟨px_f138_14, _, _, rfl, rfl⟩, List.forall_mem_cons.mpr ⟨⟨px_f138_15, _, _, rfl, rfl⟩, (fun _ h => absurd h List.not_mem_nil)⟩⟩⟩
set_option maxRecDepth 20000 in
theorem px_ok139 : px_ok 139 := List.forall_mem_cons.mpr ⟨⟨px_f139_0, _, _, rfl, rfl⟩, List.forall_mem_cons.mpr ⟨⟨px_f139_14, _, _, rfl, rfl⟩, List.forall_mem_cons.mpr ⟨⟨px_f139_15, _, _, rfl, rfl⟩, (fun _ h => absurd h List.not_mem_nil)⟩⟩⟩
set_option maxRecDepth 20000 in
theorem px_ok140 : px_ok 140 := List.forall_mem_cons.mpr ⟨⟨px_f140_0, _, _, rfl, rfl⟩, List.forall_mem_cons.mpr ⟨⟨px_f140_14, _, _, rfl, rfl⟩, List.forall_mem_cons.mpr ⟨⟨px_f140_15, _, _, rfl, rfl⟩, (fun _ h => absurd h List.not_mem_nil)⟩⟩⟩
set_option maxRecDepth 20000 in
theorem px_ok141 : px_ok 141 := List.forall_mem_cons.mpr ⟨⟨px_f141_0, _, _, rfl, rfl⟩, List.forall_mem_cons.mpr ⟨⟨px_f141_14, _, _, rfl, rfl⟩, List.forall_mem_cons.mpr ⟨⟨px_f141_15, _, _, rfl, rfl⟩, (fun _ h => absurd h List.not_mem_nil)⟩⟩⟩
set_option maxRecDepth 20000 in
theorem px_ok142 : px_ok 142 := List.forall_mem_cons.mpr ⟨⟨px_f142_0, _, _, rfl, rfl⟩, List.forall_mem_cons.mpr ⟨⟨px_f142_12, _, _, rfl, rfl⟩, List.forall_mem_cons.mpr ⟨⟨px_f142_13, _, _, rfl, rfl⟩, (fun _ h => absurd h List.not_mem_nil)⟩⟩⟩
set_option maxRecDepth 20000 in
theorem px_ok143 : px_ok 143 := List.forall_mem_cons.mpr ⟨⟨px_f143_0, _, _, rfl, rfl⟩, (fun _ h => absurd h List.not_mem_nil)⟩
set_option maxRecDepth 20000 in
theorem px_ok144 : px_ok 144 := List.forall_mem_cons.mpr ⟨⟨px_f144_0, _, _, rfl, rfl⟩, (fun _ h => absurd h List.not_mem_nil)⟩
set_option maxRecDepth 20000 in
theorem px_ok145 : px_ok 145 := List.forall_mem_cons.mpr ⟨⟨px_f145_0, _, _, rfl, rfl⟩, List.forall_mem_cons.mpr ⟨⟨px_f145_26, _, _, rfl, rfl⟩, List.forall_mem_cons.mpr ⟨⟨px_f145_28, _, _, rfl, rfl⟩, List.forall_mem_cons.mpr ⟨⟨px_f145_50, _, _, rfl, rfl⟩, List.forall_mem_cons.mpr ⟨⟨px_f145_51, _, _, rfl, rfl⟩, (fun _ h => absurd h List.not_mem_nil)⟩⟩⟩⟩⟩
set_option maxRecDepth 20000 in
theorem px_ok146 : px_ok 146 := List.forall_mem_cons.mpr ⟨⟨px_f146_0, _, _, rfl, rfl⟩, List.forall_mem_cons.mpr ⟨⟨px_f146_40, _, _, rfl, rfl⟩, List.forall_mem_cons.mpr ⟨⟨px_f146_49, _, _, rfl, rfl⟩, List.forall_mem_cons.mpr ⟨⟨px_f146_53, _, _, rfl, rfl⟩, List.forall_mem_cons.mpr ⟨⟨px_f146_54, _, _, rfl, rfl⟩, List.forall_mem_cons.mpr ⟨⟨px_f146_55, _, _, rfl, rfl⟩, List.forall_mem_cons.mpr ⟨⟨px_f146_60, _, _, rfl, rfl⟩, List.forall_mem_cons.mpr ⟨⟨px_f146_75, _, _, rfl, rfl⟩, List.forall_mem_cons.mpr ⟨⟨px_f146_76, _, _, rfl, rfl⟩, List.forall_mem_cons.mpr ⟨⟨px_f146_77, _, _, rfl, rfl⟩, (fun _ h => absurd h List.not_mem_nil)⟩⟩⟩⟩⟩⟩⟩⟩⟩⟩
set_option maxRecDepth 20000 in
theorem px_ok147 : px_ok 147 := List.forall_mem_cons.mpr ⟨⟨px_f147_0, _, _, rfl, rfl⟩, List.forall_mem_cons.mpr ⟨⟨px_f147_56, _, _, rfl, rfl⟩, List.forall_mem_cons.mpr ⟨⟨px_f147_60, _, _, rfl, rfl⟩, List.forall_mem_cons.mpr ⟨⟨px_f147_64, _, _, rfl, rfl⟩, List.forall_mem_cons.mpr ⟨⟨px_f147_68, _, _, rfl, rfl⟩, List.forall_mem_cons.mpr ⟨⟨px_f147_72, _, _, rfl, rfl⟩, List.forall_mem_cons.mpr ⟨⟨px_f147_76, _, _, rfl, rfl⟩, List.forall_mem_cons.mpr ⟨⟨px_f147_80, _, _, rfl, rfl⟩, List.forall_mem_cons.mpr ⟨⟨px_f147_84, _, _, rfl, rfl⟩, List.forall_mem_cons.mpr ⟨⟨px_f147_88, _, _, rfl, rfl⟩, List.forall_mem_cons.mpr ⟨⟨px_f147_92, _, _, rfl, rfl⟩, List.forall_mem_cons.mpr ⟨⟨px_f147_96, _, _, rfl, rfl⟩, (fun _ h => absurd h List.not_mem_nil)⟩⟩⟩⟩⟩⟩⟩⟩⟩⟩⟩⟩
set_option maxRecDepth 20000 in
theorem px_ok148 : px_ok 148 := List.forall_mem_cons.mpr ⟨⟨px_f148_0, _, _, rfl, rfl⟩, List.forall_mem_cons.mpr ⟨⟨px_f148_98, _, _, rfl, rfl⟩, List.forall_mem_cons.mpr ⟨⟨px_f148_198, _, _, rfl, rfl⟩, List.forall_mem_cons.mpr ⟨⟨px_f148_275, _, _, rfl, rfl⟩, List.forall_mem_cons.mpr ⟨⟨px_f148_348, _, _, rfl, rfl⟩, List.forall_mem_cons.mpr ⟨⟨px_f148_421, _, _, rfl, rfl⟩, List.forall_mem_cons.mpr ⟨⟨px_f148_494, _, _, rfl, rfl⟩, List.forall_mem_cons.mpr ⟨⟨px_f148_567, _, _, rfl, rfl⟩, List.forall_mem_cons.mpr ⟨⟨px_f148_642, _, _, rfl, rfl⟩, (fun _ h => absurd h List.not_mem_nil)⟩⟩⟩⟩⟩⟩⟩⟩⟩
set_option maxRecDepth 20000 in
theorem px_ok149 : px_ok 149 := List.forall_mem_cons.mpr ⟨⟨px_f149_0, _, _, rfl, rfl⟩, (fun _ h => absurd h List.not_mem_nil)⟩
set_option maxRecDepth 20000 in
theorem px_ok150 : px_ok 150 := List.forall_mem_cons.mpr ⟨⟨px_f150_0, _, _, rfl, rfl⟩, (fun _ h => absurd h List.not_mem_nil)⟩
set_option maxRecDepth 20000 in
theorem px_ok151 : px_ok 151 := List.forall_mem_cons.mpr ⟨⟨px_f151_0, _, _, rfl, rfl⟩, List.forall_mem_cons.mpr ⟨⟨px_f151_14, _, _, rfl, rfl⟩, List.forall_mem_cons.mpr ⟨⟨px_f151_15, _, _, rfl, rfl⟩, (fun _ h => absurd h List.not_mem_nil)⟩⟩⟩
set_option maxRecDepth 20000 in
theorem px_ok152 : px_ok 152 := List.forall_mem_cons.mpr ⟨⟨px_f152_0, _, _, rfl, rfl⟩, List.forall_mem_cons.mpr ⟨⟨px_f152_14, _, _, rfl, rfl⟩, List.forall_mem_cons.mpr ⟨⟨px_f152_15, _, _, rfl, rfl⟩, (fun _ h => absurd h List.not_mem_nil)⟩⟩⟩
set_option maxRecDepth 20000 in
theorem px_ok153 : px_ok 153 := List.forall_mem_cons.mpr ⟨⟨px_f153_0, _, _, rfl, rfl⟩, List.forall_mem_cons.mpr ⟨⟨px_f153_16, _, _, rfl, rfl⟩, List.forall_mem_cons.mpr ⟨⟨px_f153_17, _, _, rfl, rfl⟩, (fun _ h => absurd h List.not_mem_nil)⟩⟩⟩
set_option maxRecDepth 20000 in
theorem px_ok154 : px_ok 154 := List.forall_mem_cons.mpr ⟨⟨px_f154_0, _, _, rfl, rfl⟩, List.forall_mem_cons.mpr ⟨⟨px_f154_16, _, _, rfl, rfl⟩, List.forall_mem_cons.mpr ⟨⟨px_f154_17, _, _, rfl, rfl⟩, (fun _ h => absurd h List.not_mem_nil)⟩⟩⟩
set_option maxRecDepth 20000 in
theorem px_ok155 : px_ok 155 := List.forall_mem_cons.mpr ⟨⟨px_f155_0, _, _, rfl, rfl⟩, List.forall_mem_cons.mpr ⟨⟨px_f155_18, _, _, rfl, rfl⟩, List.forall_mem_cons.mpr ⟨⟨px_f155_19, _, _, rfl, rfl⟩, (fun _ h => absurd h List.not_mem_nil)⟩⟩⟩
set_option maxRecDepth 20000 in
theorem px_ok156 : px_ok 156 := List.forall_mem_cons.mpr ⟨⟨px_f156_0, _, _, rfl, rfl⟩, List.forall_mem_cons.mpr ⟨⟨px_f156_14, _, _, rfl, rfl⟩, List.forall_mem_cons.mpr ⟨⟨px_f156_15, _, _, rfl, rfl⟩, (fun _ h => absurd h List.not_mem_nil)⟩⟩⟩
set_option maxRecDepth 20000 in
theorem px_ok157 : px_ok 157 := List.forall_mem_cons.mpr ⟨⟨px_f157_0, _, _, rfl, rfl⟩, List.forall_mem_cons.mpr ⟨⟨px_f157_14, _, _, rfl, rfl⟩, List.forall_mem_cons.mpr ⟨⟨px_f157_25, _, _, rfl, rfl⟩, List.forall_mem_cons.mpr ⟨⟨px_f157_34, _, _, rfl, rfl⟩, List.forall_mem_cons.mpr ⟨⟨px_f157_41, _, _, rfl, rfl⟩, List.forall_mem_cons.mpr ⟨⟨px_f157_54, _, _, rfl, rfl⟩, List.forall_mem_cons.mpr ⟨⟨px_f157_78, _, _, rfl, rfl⟩, List.forall_mem_cons.mpr ⟨⟨px_f157_104, _, _, rfl, rfl⟩, (fun _ h => absurd h List.not_mem_nil)⟩⟩⟩⟩⟩⟩⟩⟩
set_option maxRecDepth 20000 in
theorem px_ok158 : px_ok 158 := List.forall_mem_cons.mpr ⟨⟨px_f158_0, _, _, rfl, rfl⟩, List.forall_mem_cons.mpr ⟨⟨px_f158_14, _, _, rfl, rfl⟩, List.forall_mem_cons.mpr ⟨⟨px_f158_31, _, _, rfl, rfl⟩, List.forall_mem_cons.mpr ⟨⟨px_f158_47, _, _, rfl, rfl⟩, List.forall_mem_cons.mpr ⟨⟨px_f158_61, _, _, rfl, rfl⟩, List.forall_mem_cons.mpr ⟨⟨px_f158_68, _, _, rfl, rfl⟩, List.forall_mem_cons.mpr ⟨⟨px_f158_94, _, _, rfl, rfl⟩, List.forall_mem_cons.mpr ⟨⟨px_f158_111, _, _, rfl, rfl⟩, List.forall_mem_cons.mpr ⟨⟨px_f158_127, _, _, rfl, rfl⟩, List.forall_mem_cons.mpr ⟨⟨px_f158_128, _, _, rfl, rfl⟩, (fun _ h => absurd h List.not_mem_nil)⟩⟩⟩⟩⟩⟩⟩⟩⟩⟩
set_option maxRecDepth 20000 in
theorem px_ok159 : px_ok 159 := List.forall_mem_cons.mpr ⟨⟨px_f159_0, _, _, rfl, rfl⟩, List.forall_mem_cons.mpr ⟨⟨px_f159_16, _, _, rfl, rfl⟩, List.forall_mem_cons.mpr ⟨⟨px_f159_22, _, _, rfl, rfl⟩, List.forall_mem_cons.mpr ⟨⟨px_f159_77, _, _, rfl, rfl⟩, List.forall_mem_cons.mpr ⟨⟨px_f159_84, _, _, rfl, rfl⟩, List.forall_mem_cons.mpr ⟨⟨px_f159_102, _, _, rfl, rfl⟩, List.forall_mem_cons.mpr ⟨⟨px_f159_109, _, _, rfl, rfl⟩, List.forall_mem_cons.mpr ⟨⟨px_f159_121, _, _, rfl, rfl⟩, List.forall_mem_cons.mpr ⟨⟨px_f159_157, _, _, rfl, rfl⟩, List.forall_mem_cons.mpr ⟨⟨px_f159_164, _, _, rfl, rfl⟩, List.forall_mem_cons.mpr ⟨⟨px_f159_167, _, _, rfl, rfl⟩, List.forall_mem_cons.mpr ⟨⟨px_f159_201, _, _, rfl, rfl⟩, List.forall_mem_cons.mpr ⟨⟨px_f159_204, _, _, rfl, rfl⟩, List.forall_mem_cons.mpr ⟨⟨px_f159_239, _, _, rfl, rfl⟩, (fun _ h => absurd h List.not_mem_nil)⟩⟩⟩⟩⟩⟩⟩⟩⟩⟩⟩⟩⟩⟩
set_option maxRecDepth 20000 in
theorem px_ok160 : px_ok 160 := List.forall_mem_cons.mpr ⟨⟨px_f160_0, _, _, rfl, rfl⟩, List.forall_mem_cons.mpr ⟨⟨px_f160_46, _, _, rfl, rfl⟩, List.forall_mem_cons.mpr ⟨⟨px_f160_47, _, _, rfl, rfl⟩, (fun _ h => absurd h List.not_mem_nil)⟩⟩⟩
set_option maxRecDepth 20000 in
theorem px_ok161 : px_ok 161 := List.forall_mem_cons.mpr ⟨⟨px_f161_0, _, _, rfl, rfl⟩, List.forall_mem_cons.mpr ⟨⟨px_f161_19, _, _, rfl, rfl⟩, List.forall_mem_cons.mpr ⟨⟨px_f161_25, _, _, rfl, rfl⟩, List.forall_mem_cons.mpr ⟨⟨px_f161_39, _, _, rfl, rfl⟩, List.forall_mem_cons.mpr ⟨⟨px_f161_49, _, _, rfl, rfl⟩, List.forall_mem_cons.mpr ⟨⟨px_f161_58, _, _, rfl, rfl⟩, List.forall_mem_cons.mpr ⟨⟨px_f161_71, _, _, rfl, rfl⟩, List.forall_mem_cons.mpr ⟨⟨px_f161_88, _, _, rfl, rfl⟩, List.forall_mem_cons.mpr ⟨⟨px_f161_92, _, _, rfl, rfl⟩, List.forall_mem_cons.mpr ⟨⟨px_f161_93, _, _, rfl, rfl⟩, List.forall_mem_cons.mpr ⟨⟨px_f161_107, _, _, rfl, rfl⟩, List.forall_mem_cons.mpr ⟨⟨px_f161_147, _, _, rfl, rfl⟩, List.forall_mem_cons.mpr ⟨⟨px_f161_151, _, _, rfl, rfl⟩, List.forall_mem_cons.mpr ⟨⟨px_f161_152, _, _, rfl, rfl⟩, List.forall_mem_cons.mpr ⟨⟨px_f161_170, _, _, rfl, rfl⟩, List.forall_mem_cons.mpr ⟨⟨px_f161_171, _, _, rfl, rfl⟩, (fun _ h => absurd h List.not_mem_nil)⟩⟩⟩⟩⟩⟩⟩⟩⟩⟩⟩⟩⟩⟩⟩⟩
set_option maxRecDepth 20000 in
theorem px_ok162 : px_ok 162 := List.forall_mem_cons.mpr ⟨⟨px_f162_0, _, _, rfl, rfl⟩, List.forall_mem_cons.mpr ⟨⟨px_f162_17, _, _, rfl, rfl⟩, List.forall_mem_cons.mpr ⟨⟨px_f162_19, _, _, rfl, rfl⟩, List.forall_mem_cons.mpr ⟨⟨px_f162_41, _, _, rfl, rfl⟩, List.forall_mem_cons.mpr ⟨⟨px_f162_47, _, _, rfl, rfl⟩, (fun _ h => absurd h List.not_mem_nil)⟩⟩⟩⟩⟩
set_option maxRecDepth 20000 in
theorem px_ok163 : px_ok 163 := List.forall_mem_cons.mpr ⟨⟨px_f163_0, _, _, rfl, rfl⟩, List.forall_mem_cons.mpr ⟨⟨px_f163_24, _, _, rfl, rfl⟩, List.forall_mem_cons.mpr ⟨⟨px_f163_28, _, _, rfl, rfl⟩, List.forall_mem_cons.mpr ⟨⟨px_f163_29, _, _, rfl, rfl⟩, (fun _ h => absurd h List.not_mem_nil)⟩⟩⟩⟩
set_option maxRecDepth 20000 in
theorem px_ok164 : px_ok 164 := List.forall_mem_cons.mpr ⟨⟨px_f164_0, _, _, rfl, rfl⟩, List.forall_mem_cons.mpr ⟨⟨px_f164_18, _, _, rfl, rfl⟩, List.forall_mem_cons.mpr ⟨⟨px_f164_24, _, _, rfl, rfl⟩, List.forall_mem_cons.mpr ⟨⟨px_f164_41, _, _, rfl, rfl⟩, List.forall_mem_cons.mpr ⟨⟨px_f164_57, _, _, rfl, rfl⟩, List.forall_mem_cons.mpr ⟨⟨px_f164_78, _, _, rfl, rfl⟩, List.forall_mem_cons.mpr ⟨⟨px_f164_111, _, _, rfl, rfl⟩, List.forall_mem_cons.mpr ⟨⟨px_f164_118, _, _, rfl, rfl⟩, List.forall_mem_cons.mpr ⟨⟨px_f164_132, _, _, rfl, rfl⟩, List.forall_mem_cons.mpr ⟨⟨px_f164_138, _, _, rfl, rfl⟩, (fun _ h => absurd h List.not_mem_nil)⟩⟩⟩⟩⟩⟩⟩⟩⟩⟩
set_option maxRecDepth 20000 in
theorem px_ok165 : px_ok 165 := List.forall_mem_cons.mpr ⟨⟨px_f165_0, _, _, rfl, rfl⟩, List.forall_mem_cons.mpr ⟨⟨px_f165_4, _, _, rfl, rfl⟩, List.forall_mem_cons.mpr ⟨⟨px_f165_20, _, _, rfl, rfl⟩, (fun _ h => absurd h List.not_mem_nil)⟩⟩⟩
set_option maxRecDepth 20000 in
theorem px_ok166 : px_ok 166 := List.forall_mem_cons.mpr ⟨⟨px_f166_0, _, _, rfl, rfl⟩, List.forall_mem_cons.mpr ⟨⟨px_f166_12, _, _, rfl, rfl⟩, List.forall_mem_cons.mpr ⟨⟨px_f166_29, _, _, rfl, rfl⟩, List.forall_mem_cons.mpr ⟨⟨px_f166_43, _, _, rfl, rfl⟩, List.forall_mem_cons.mpr ⟨⟨px_f166_44, _, _, rfl, rfl⟩, (fun _ h => absurd h List.not_mem_nil)⟩⟩⟩⟩⟩
set_option maxRecDepth 20000 in
theorem px_ok167 : px_ok 167 := List.forall_mem_cons.mpr ⟨⟨px_f167_0, _, _, rfl, rfl⟩, (fun _ h => absurd h List.not_mem_nil)⟩
set_option maxRecDepth 20000 in
theorem px_ok168 : px_ok 168 := List.forall_mem_cons.mpr ⟨⟨px_f168_0, _, _, rfl, rfl⟩, List.forall_mem_cons.mpr ⟨⟨px_f168_49, _, _, rfl, rfl⟩, List.forall_mem_cons.mpr ⟨⟨px_f168_50, _, _, rfl, rfl⟩, (fun _ h => absurd h List.not_mem_nil)⟩⟩⟩
set_option maxRecDepth 20000 in
theorem px_ok169 : px_ok 169 := List.forall_mem_cons.mpr ⟨⟨px_f169_0, _, _, rfl, rfl⟩, (fun _ h => absurd h List.not_mem_nil)⟩
set_option maxRecDepth 20000 in
theorem px_ok170 : px_ok 170 := List.forall_mem_cons.mpr ⟨⟨px_f170_0, _, _, rfl, rfl⟩, List.forall_mem_cons.mpr ⟨⟨px_f170_19, _, _, rfl, rfl⟩, List.forall_mem_cons.mpr ⟨⟨px_f170_37, _, _, rfl, rfl⟩, List.forall_mem_cons.mpr ⟨⟨px_f170_46, _, _, rfl, rfl⟩, (fun _ h => absurd h List.not_mem_nil)⟩⟩⟩⟩
set_option maxRecDepth 20000 in
theorem px_ok171 : px_ok 171 := List.forall_mem_cons.mpr ⟨⟨px_f171_0, _, _, rfl, rfl⟩, (fun _ h => absurd h List.not_mem_nil)⟩
set_option maxRecDepth 20000 in
theorem px_ok172 : px_ok 172 := List.forall_mem_cons.mpr ⟨⟨px_f172_0, _, _, rfl, rfl⟩, List.forall_mem_cons.mpr ⟨⟨px_f172_14, _, _, rfl, rfl⟩, List.forall_mem_cons.mpr ⟨⟨px_f172_24, _, _, rfl, rfl⟩, List.forall_mem_cons.mpr ⟨⟨px_f172_31, _, _, rfl, rfl⟩, List.forall_mem_cons.mpr ⟨⟨px_f172_49, _, _, rfl, rfl⟩, List.forall_mem_cons.mpr ⟨⟨px_f172_55, _, _, rfl, rfl⟩, (fun _ h => absurd h List.not_mem_nil)⟩⟩⟩⟩⟩⟩
set_option maxRecDepth 20000 in
theorem px_ok173 : px_ok 173 := List.forall_mem_cons.mpr ⟨⟨px_f173_0, _, _, rfl, rfl⟩, List.forall_mem_cons.mpr ⟨⟨px_f173_17, _, _, rfl, rfl⟩, List.forall_mem_cons.mpr ⟨⟨px_f173_21, _, _, rfl, rfl⟩, List.forall_mem_cons.mpr ⟨⟨px_f173_39, _, _, rfl, rfl⟩, List.forall_mem_cons.mpr ⟨⟨px_f173_43, _, _, rfl, rfl⟩, List.forall_mem_cons.mpr ⟨⟨px_f173_56, _, _, rfl, rfl⟩, List.forall_mem_cons.mpr ⟨⟨px_f173_57, _, _, rfl, rfl⟩, (fun _ h => absurd h List.not_mem_nil)⟩⟩⟩⟩⟩⟩⟩
set_option maxRecDepth 20000 in
theorem px_ok174 : px_ok 174 := List.forall_mem_cons.mpr ⟨⟨px_f174_0, _, _, rfl, rfl⟩, List.forall_mem_cons.mpr ⟨⟨px_f174_24, _, _, rfl, rfl⟩, List.forall_mem_cons.mpr ⟨⟨px_f174_49, _, _, rfl, rfl⟩, List.forall_mem_cons.mpr ⟨⟨px_f174_66, _, _, rfl, rfl⟩, List.forall_mem_cons.mpr ⟨⟨px_f174_77, _, _, rfl, rfl⟩, List.forall_mem_cons.mpr ⟨⟨px_f174_89, _, _, rfl, rfl⟩, List.forall_mem_cons.mpr ⟨⟨px_f174_93, _, _, rfl, rfl⟩, (fun _ h => absurd h List.not_mem_nil)⟩⟩⟩⟩⟩⟩⟩
set_option maxRecDepth 20000 in
theorem px_ok175 : px_ok 175 := List.forall_mem_cons.mpr ⟨⟨px_f175_0, _, _, rfl, rfl⟩, List.forall_mem_cons.mpr ⟨⟨px_f175_17, _, _, rfl, rfl⟩, List.forall_mem_cons.mpr ⟨⟨px_f175_23, _, _, rfl, rfl⟩, List.forall_mem_cons.mpr ⟨⟨px_f175_40, _, _, rfl, rfl⟩, List.forall_mem_cons.mpr ⟨⟨px_f175_46, _, _, rfl, rfl⟩, (fun _ h => absurd h List.not_mem_nil)⟩⟩⟩⟩⟩
set_option maxRecDepth 20000 in
theorem px_ok176 : px_ok 176 := List.forall_mem_cons.mpr ⟨⟨px_f176_0, _, _, rfl, rfl⟩, (fun _ h => absurd h List.not_mem_nil)⟩
set_option maxRecDepth 20000 in
theorem px_ok177 : px_ok 177 := List.forall_mem_cons.mpr ⟨⟨px_f177_0, _, _, rfl, rfl⟩, List.forall_mem_cons.mpr ⟨⟨px_f177_14, _, _, rfl, rfl⟩, List.forall_mem_cons.mpr ⟨⟨px_f177_25, _, _, rfl, rfl⟩, List.forall_mem_cons.mpr ⟨⟨px_f177_32, _, _, rfl, rfl⟩, List.forall_mem_cons.mpr ⟨⟨px_f177_50, _, _, rfl, rfl⟩, List.forall_mem_cons.mpr ⟨⟨px_f177_56, _, _, rfl, rfl⟩, (fun _ h => absurd h List.not_mem_nil)⟩⟩⟩⟩⟩⟩
set_option maxRecDepth 20000 in
theorem px_ok178 : px_ok 178 := List.forall_mem_cons.mpr ⟨⟨px_f178_0, _, _, rfl, rfl⟩, (fun _ h => absurd h List.not_mem_nil)⟩
set_option maxRecDepth 20000 in
theorem px_ok179 : px_ok 179 := List.forall_mem_cons.mpr ⟨⟨px_f179_0, _, _, rfl, rfl⟩, List.forall_mem_cons.mpr ⟨⟨px_f179_14, _, _, rfl, rfl⟩, List.forall_mem_cons.mpr ⟨⟨px_f179_34, _, _, rfl, rfl⟩, List.forall_mem_cons.mpr ⟨⟨px_f179_41, _, _, rfl, rfl⟩, List.forall_mem_cons.mpr ⟨⟨px_f179_59, _, _, rfl, rfl⟩, List.forall_mem_cons.mpr ⟨⟨px_f179_66, _, _, rfl, rfl⟩, (fun _ h => absurd h List.not_mem_nil)⟩⟩⟩⟩⟩⟩
set_option maxRecDepth 20000 in
theorem px_ok180 : px_ok 180 := List.forall_mem_cons.mpr ⟨⟨px_f180_0, _, _, rfl, rfl⟩, List.forall_mem_cons.mpr ⟨⟨px_f180_19, _, _, rfl, rfl⟩, List.forall_mem_cons.mpr ⟨⟨px_f180_23, _, _, rfl, rfl⟩, List.forall_mem_cons.mpr ⟨⟨px_f180_42, _, _, rfl, rfl⟩, List.forall_mem_cons.mpr ⟨⟨px_f180_56, _, _, rfl, rfl⟩, List.forall_mem_cons.mpr ⟨⟨px_f180_67, _, _, rfl, rfl⟩, List.forall_mem_cons.mpr ⟨⟨px_f180_71, _, _, rfl, rfl⟩, List.forall_mem_cons.mpr ⟨⟨px_f180_72, _, _, rfl, rfl⟩, (fun _ h => absurd h List.not_mem_nil)⟩⟩⟩⟩⟩⟩⟩⟩
set_option maxRecDepth 20000 in
theorem px_ok181 : px_ok 181 := List.forall_mem_cons.mpr ⟨⟨px_f181_0, _, _, rfl, rfl⟩, List.forall_mem_cons.mpr ⟨⟨px_f181_11, _, _, rfl, rfl⟩, List.forall_mem_cons.mpr ⟨⟨px_f181_23, _, _, rfl, rfl⟩, List.forall_mem_cons.mpr ⟨⟨px_f181_35, _, _, rfl, rfl⟩, List.forall_mem_cons.mpr ⟨⟨px_f181_39, _, _, rfl, rfl⟩, List.forall_mem_cons.mpr ⟨⟨px_f181_52, _, _, rfl, rfl⟩, List.forall_mem_cons.mpr ⟨⟨px_f181_65, _, _, rfl, rfl⟩, List.forall_mem_cons.mpr ⟨⟨px_f181_78, _, _, rfl, rfl⟩, List.forall_mem_cons.mpr ⟨⟨px_f181_83, _, _, rfl, rfl⟩, (fun _ h => absurd h List.not_mem_nil)⟩⟩⟩⟩⟩⟩⟩⟩⟩
set_option maxRecDepth 20000 in
theorem px_ok182 : px_ok 182 := List.forall_mem_cons.mpr ⟨⟨px_f182_0, _, _, rfl, rfl⟩, List.forall_mem_cons.mpr ⟨⟨px_f182_18, _, _, rfl, rfl⟩, List.forall_mem_cons.mpr ⟨⟨px_f182_24, _, _, rfl, rfl⟩, (fun _ h => absurd h List.not_mem_nil)⟩⟩⟩
set_option maxRecDepth 20000 in
theorem px_ok183 : px_ok 183 := List.forall_mem_cons.mpr ⟨⟨px_f183_0, _, _, rfl, rfl⟩, (fun _ h => absurd h List.not_mem_nil)⟩
set_option maxRecDepth 20000 in
theorem px_ok184 : px_ok 184 := List.forall_mem_cons.mpr ⟨⟨px_f184_0, _, _, rfl, rfl⟩, List.forall_mem_cons.mpr ⟨⟨px_f184_9, _, _, rfl, rfl⟩, List.forall_mem_cons.mpr ⟨⟨px_f184_24, _, _, rfl, rfl⟩, List.forall_mem_cons.mpr ⟨⟨px_f184_75, _, _, rfl, rfl⟩, List.forall_mem_cons.mpr ⟨⟨px_f184_93, _, _, rfl, rfl⟩, List.forall_mem_cons.mpr ⟨⟨px_f184_104, _, _, rfl, rfl⟩, List.forall_mem_cons.mpr ⟨⟨px_f184_105, _, _, rfl, rfl⟩, List.forall_mem_cons.mpr ⟨⟨px_f184_106, _, _, rfl, rfl⟩, List.forall_mem_cons.mpr ⟨⟨px_f184_121, _, _, rfl, rfl⟩, List.forall_mem_cons.mpr ⟨⟨px_f184_130, _, _, rfl, rfl⟩, (fun _ h => absurd h List.not_mem_nil)⟩⟩⟩⟩⟩⟩⟩⟩⟩⟩
set_option maxRecDepth 20000 in
theorem px_ok185 : px_ok 185 := List.forall_mem_cons.mpr ⟨⟨px_f185_0, _, _, rfl, rfl⟩, List.forall_mem_cons.mpr ⟨⟨px_f185_55, _, _, rfl, rfl⟩, List.forall_mem_cons.mpr ⟨⟨px_f185_56, _, _, rfl, rfl⟩, (fun _ h => absurd h List.not_mem_nil)⟩⟩⟩
set_option maxRecDepth 20000 in
theorem px_ok186 : px_ok 186 := List.forall_mem_cons.mpr ⟨⟨px_f186_0, _, _, rfl, rfl⟩, List.forall_mem_cons.mpr ⟨⟨px_f186_26, _, _, rfl, rfl⟩, List.forall_mem_cons.mpr ⟨⟨px_f186_29, _, _, rfl, rfl⟩, List.forall_mem_cons.mpr ⟨⟨px_f186_88, _, _, rfl, rfl⟩, List.forall_mem_cons.mpr ⟨⟨px_f186_104, _, _, rfl, rfl⟩, List.forall_mem_cons.mpr ⟨⟨px_f186_112, _, _, rfl, rfl⟩, List.forall_mem_cons.mpr ⟨⟨px_f186_116, _, _, rfl, rfl⟩, List.forall_mem_cons.mpr ⟨⟨px_f186_117, _, _, rfl, rfl⟩, (fun _ h => absurd h List.not_mem_nil)⟩⟩⟩⟩⟩⟩⟩⟩
set_option maxRecDepth 20000 in
theorem px_ok187 : px_ok 187 := List.forall_mem_cons.mpr ⟨⟨px_f187_0, _, _, rfl, rfl⟩, List.forall_mem_cons.mpr ⟨⟨px_f187_31, _, _, rfl, rfl⟩, List.forall_mem_cons.mpr ⟨⟨px_f187_40, _, _, rfl, rfl⟩, (fun _ h => absurd h List.not_mem_nil)⟩⟩⟩
set_option maxRecDepth 20000 in
theorem px_ok188 : px_ok 188 := List.forall_mem_cons.mpr ⟨⟨px_f188_0, _, _, rfl, rfl⟩, List.forall_mem_cons.mpr ⟨⟨px_f188_18, _, _, rfl, rfl⟩, List.forall_mem_cons.mpr ⟨⟨px_f188_22, _, _, rfl, rfl⟩, List.forall_mem_cons.mpr ⟨⟨px_f188_40, _, _, rfl, rfl⟩, List.forall_mem_cons.mpr ⟨⟨px_f188_44, _, _, rfl, rfl⟩, List.forall_mem_cons.mpr ⟨⟨px_f188_66, _, _, rfl, rfl⟩, List.forall_mem_cons.mpr ⟨⟨px_f188_85, _, _, rfl, rfl⟩, List.forall_mem_cons.mpr ⟨⟨px_f188_89, _, _, rfl, rfl⟩, List.forall_mem_cons.mpr ⟨⟨px_f188_108, _, _, rfl, rfl⟩, List.forall_mem_cons.mpr ⟨⟨px_f188_109, _, _, rfl, rfl⟩, (fun _ h => absurd h List.not_mem_nil)⟩⟩⟩⟩⟩⟩⟩⟩⟩⟩
set_option maxRecDepth 20000 in
theorem px_ok189 : px_ok 189 := List.forall_mem_cons.mpr ⟨⟨px_f189_0, _, _, rfl, rfl⟩, List.forall_mem_cons.mpr ⟨⟨px_f189_4, _, _, rfl, rfl⟩, List.forall_mem_cons.mpr ⟨⟨px_f189_23, _, _, rfl, rfl⟩, List.forall_mem_cons.mpr ⟨⟨px_f189_24, _, _, rfl, rfl⟩, List.forall_mem_cons.mpr ⟨⟨px_f189_32, _, _, rfl, rfl⟩, List.forall_mem_cons.mpr ⟨⟨px_f189_37, _, _, rfl, rfl⟩, List.forall_mem_cons.mpr ⟨⟨px_f189_86, _, _, rfl, rfl⟩, List.forall_mem_cons.mpr ⟨⟨px_f189_101, _, _, rfl, rfl⟩, List.forall_mem_cons.mpr ⟨⟨px_f189_102, _, _, rfl, rfl⟩, (fun _ h => absurd h List.not_mem_nil)⟩⟩⟩⟩⟩⟩⟩⟩⟩
set_option maxRecDepth 20000 in
theorem px_ok190 : px_ok 190 := List.forall_mem_cons.mpr ⟨⟨px_f190_0, _, _, rfl, rfl⟩, List.forall_mem_cons.mpr ⟨⟨px_f190_2, _, _, rfl, rfl⟩, List.forall_mem_cons.mpr ⟨⟨px_f190_33, _, _, rfl, rfl⟩, List.forall_mem_cons.mpr ⟨⟨px_f190_39, _, _, rfl, rfl⟩, List.forall_mem_cons.mpr ⟨⟨px_f190_56, _, _, rfl, rfl⟩, List.forall_mem_cons.mpr ⟨⟨px_f190_70, _, _, rfl, rfl⟩, List.forall_mem_cons.mpr ⟨⟨px_f190_71, _, _, rfl, rfl⟩, List.forall_mem_cons.mpr ⟨⟨px_f190_81, _, _, rfl, rfl⟩, List.forall_mem_cons.mpr ⟨⟨px_f190_91, _, _, rfl, rfl⟩, List.forall_mem_cons.mpr ⟨⟨px_f190_101, _, _, rfl, rfl⟩, List.forall_mem_cons.mpr ⟨⟨px_f190_103, _, _, rfl, rfl⟩, List.forall_mem_cons.mpr ⟨⟨px_f190_111, _, _, rfl, rfl⟩, List.forall_mem_cons.mpr ⟨⟨px_f190_123, _, _, rfl, rfl⟩, List.forall_mem_cons.mpr ⟨⟨px_f190_141, _, _, rfl, rfl⟩, List.forall_mem_cons.mpr ⟨⟨px_f190_145, _, _, rfl, rfl⟩, List.forall_mem_cons.mpr ⟨⟨px_f190_163, _, _, rfl, rfl⟩, List.forall_mem_cons.mpr ⟨⟨px_f190_167, _, _, rfl, rfl⟩, List.forall_mem_cons.mpr ⟨⟨px_f190_184, _, _, rfl, rfl⟩, List.forall_mem_cons.mpr ⟨⟨px_f190_203, _, _, rfl, rfl⟩, List.forall_mem_cons.mpr ⟨⟨px_f190_207, _, _, rfl, rfl⟩, List.forall_mem_cons.mpr ⟨⟨px_f190_220, _, _, rfl, rfl⟩, List.forall_mem_cons.mpr ⟨⟨px_f190_221, _, _, rfl, rfl⟩, List.forall_mem_cons.mpr ⟨⟨px_f190_232, _, _, rfl, rfl⟩, List.forall_mem_cons.mpr ⟨⟨px_f190_242, _, _, rfl, rfl⟩, List.forall_mem_cons.mpr ⟨⟨px_f190_243, _, _, rfl, rfl⟩, List.forall_mem_cons.mpr ⟨⟨px_f190_253, _, _, rfl, rfl⟩, List.forall_mem_cons.mpr ⟨⟨px_f190_255, _, _, rfl, rfl⟩, List.forall_mem_cons.mpr ⟨⟨px_f190_263, _, _, rfl, rfl⟩, List.forall_mem_cons.mpr ⟨⟨px_f190_294, _, _, rfl, rfl⟩, List.forall_mem_cons.mpr ⟨⟨px_f190_306, _, _, rfl, rfl⟩, List.forall_mem_cons.mpr ⟨⟨px_f190_310, _, _, rfl, rfl⟩, List.forall_mem_cons.mpr ⟨⟨px_f190_311, _, _, rfl, rfl⟩, List.forall_mem_cons.mpr ⟨⟨px_f190_321, _, _, rfl, rfl⟩, List.forall_mem_cons.mpr ⟨⟨px_f190_326, _, _, rfl, rfl⟩, List.forall_mem_cons.mpr ⟨⟨px_f190_329, _, _, rfl, rfl⟩, List.forall_mem_cons.mpr ⟨⟨px_f190_337, _, _, rfl, rfl⟩, List.forall_mem_cons.mpr ⟨⟨px_f190_360, _, _, rfl, rfl⟩, List.forall_mem_cons.mpr ⟨⟨px_f190_378, _, _, rfl, rfl⟩, List.forall_mem_cons.mpr ⟨⟨px_f190_396, _, _, rfl, rfl⟩, List.forall_mem_cons.mpr ⟨⟨px_f190_412, _, _, rfl, rfl⟩, List.forall_mem_cons.mpr ⟨⟨px_f190_424, _, _, rfl, rfl⟩, List.forall_mem_cons.mpr ⟨⟨px_f190_442, _, _, rfl, rfl⟩, List.forall_mem_cons.mpr ⟨⟨px_f190_457, _, _, rfl, rfl⟩, (fun _ h => absurd h List.not_mem_nil)⟩⟩⟩⟩⟩⟩⟩⟩⟩⟩⟩⟩⟩⟩⟩⟩⟩⟩⟩⟩⟩⟩⟩⟩⟩⟩⟩⟩⟩⟩⟩⟩⟩⟩⟩⟩⟩⟩⟩⟩⟩⟩⟩
set_option maxRecDepth 20000 in
theorem px_ok191 : px_ok 191 := List.forall_mem_cons.mpr ⟨⟨px_f191_0, _, _, rfl, rfl⟩, List.forall_mem_cons.mpr ⟨⟨px_f191_87, _, _, rfl, rfl⟩, (fun _ h => absurd h List.not_mem_nil)⟩⟩
set_option maxRecDepth 20000 in
theorem px_ok192 : px_ok 192 := List.forall_mem_cons.mpr ⟨⟨px_f192_0, _, _, rfl, rfl⟩, List.forall_mem_cons.mpr ⟨⟨px_f192_17, _, _, rfl, rfl⟩, List.forall_mem_cons.mpr ⟨⟨px_f192_62, _, _, rfl, rfl⟩, List.forall_mem_cons.mpr ⟨⟨px_f192_111, _, _, rfl, rfl⟩, List.forall_mem_cons.mpr ⟨⟨px_f192_133, _, _, rfl, rfl⟩, List.forall_mem_cons.mpr ⟨⟨px_f192_140, _, _, rfl, rfl⟩, (fun _ h => absurd h List.not_mem_nil)⟩⟩⟩⟩⟩⟩
set_option maxRecDepth 20000 in
theorem px_ok193 : px_ok 193 := List.forall_mem_cons.mpr ⟨⟨px_f193_0, _, _, rfl, rfl⟩, (fun _ h => absurd h List.not_mem_nil)⟩
set_option maxRecDepth 20000 in
theorem px_ok194 : px_ok 194 := List.forall_mem_cons.mpr ⟨⟨px_f194_0, _, _, rfl, rfl⟩, List.forall_mem_cons.mpr ⟨⟨px_f194_17, _, _, rfl, rfl⟩, List.forall_mem_cons.mpr ⟨⟨px_f194_24, _, _, rfl, rfl⟩, List.forall_mem_cons.mpr ⟨⟨px_f194_37, _, _, rfl, rfl⟩, List.forall_mem_cons.mpr ⟨⟨px_f194_51, _, _, rfl, rfl⟩, List.forall_mem_cons.mpr ⟨⟨px_f194_65, _, _, rfl, rfl⟩, List.forall_mem_cons.mpr ⟨⟨px_f194_71, _, _, rfl, rfl⟩, (fun _ h => absurd h List.not_mem_nil)⟩⟩⟩⟩⟩⟩⟩
set_option maxRecDepth 20000 in
theorem px_ok195 : px_ok 195 := List.forall_mem_cons.mpr ⟨⟨px_f195_0, _, _, rfl, rfl⟩, List.forall_mem_cons.mpr ⟨⟨px_f195_17, _, _, rfl, rfl⟩, List.forall_mem_cons.mpr ⟨⟨px_f195_24, _, _, rfl, rfl⟩, List.forall_mem_cons.mpr ⟨⟨px_f195_37, _, _, rfl, rfl⟩, List.forall_mem_cons.mpr ⟨⟨px_f195_51, _, _, rfl, rfl⟩, List.forall_mem_cons.mpr ⟨⟨px_f195_65, _, _, rfl, rfl⟩, List.forall_mem_cons.mpr ⟨⟨px_f195_71, _, _, rfl, rfl⟩, (fun _ h => absurd h List.not_mem_nil)⟩⟩⟩⟩⟩⟩⟩
set_option maxRecDepth 20000 in
theorem px_ok196 : px_ok 196 := List.forall_mem_cons.mpr ⟨⟨px_f196_0, _, _, rfl, rfl⟩, List.forall_mem_cons.mpr ⟨⟨px_f196_21, _, _, rfl, rfl⟩, List.forall_mem_cons.mpr ⟨⟨px_f196_27, _, _, rfl, rfl⟩, (fun _ h => absurd h List.not_mem_nil)⟩⟩⟩
set_option maxRecDepth 20000 in
theorem px_ok197 : px_ok 197 := List.forall_mem_cons.mpr ⟨⟨px_f197_0, _, _, rfl, rfl⟩, List.forall_mem_cons.mpr ⟨⟨px_f197_14, _, _, rfl, rfl⟩, List.forall_mem_cons.mpr ⟨⟨px_f197_31, _, _, rfl, rfl⟩, List.forall_mem_cons.mpr ⟨⟨px_f197_39, _, _, rfl, rfl⟩, List.forall_mem_cons.mpr ⟨⟨px_f197_40, _, _, rfl, rfl⟩, List.forall_mem_cons.mpr ⟨⟨px_f197_53, _, _, rfl, rfl⟩, (fun _ h => absurd h List.not_mem_nil)⟩⟩⟩⟩⟩⟩
set_option maxRecDepth 20000 in
theorem px_ok198 : px_ok 198 := List.forall_mem_cons.mpr ⟨⟨px_f198_0, _, _, rfl, rfl⟩, List.forall_mem_cons.mpr ⟨⟨px_f198_4, _, _, rfl, rfl⟩, List.forall_mem_cons.mpr ⟨⟨px_f198_28, _, _, rfl, rfl⟩, List.forall_mem_cons.mpr ⟨⟨px_f198_34, _, _, rfl, rfl⟩, (fun _ h => absurd h List.not_mem_nil)⟩⟩⟩⟩
set_option maxRecDepth 20000 in
theorem px_ok199 : px_ok 199 := List.forall_mem_cons.mpr ⟨⟨px_f199_0, _, _, rfl, rfl⟩, List.forall_mem_cons.mpr ⟨⟨px_f199_11, _, _, rfl, rfl⟩, List.forall_mem_cons.mpr ⟨⟨px_f199_15, _, _, rfl, rfl⟩, List.forall_mem_cons.mpr ⟨⟨px_f199_26, _, _, rfl, rfl⟩, List.forall_mem_cons.mpr ⟨⟨px_f199_30, _, _, rfl, rfl⟩, List.forall_mem_cons.mpr ⟨⟨px_f199_45, _, _, rfl, rfl⟩, List.forall_mem_cons.mpr ⟨⟨px_f199_46, _, _, rfl, rfl⟩, (fun _ h => absurd h List.not_mem_nil)⟩⟩⟩⟩⟩⟩⟩
set_option maxRecDepth 20000 in
theorem px_ok200 : px_ok 200 := List.forall_mem_cons.mpr ⟨⟨px_f200_0, _, _, rfl, rfl⟩, List.forall_mem_cons.mpr ⟨⟨px_f200_38, _, _, rfl, rfl⟩, List.forall_mem_cons.mpr ⟨⟨px_f200_52, _, _, rfl, rfl⟩, List.forall_mem_cons.mpr ⟨⟨px_f200_56, _, _, rfl, rfl⟩, List.forall_mem_cons.mpr ⟨⟨px_f200_57, _, _, rfl, rfl⟩, (fun _ h => absurd h List.not_mem_nil)⟩⟩⟩⟩⟩
set_option maxRecDepth 20000 in
theorem px_ok201 : px_ok 201 := List.forall_mem_cons.mpr ⟨⟨px_f201_0, _, _, rfl, rfl⟩, List.forall_mem_cons.mpr ⟨⟨px_f201_63, _, _, rfl, rfl⟩, List.forall_mem_cons.mpr ⟨⟨px_f201_81, _, _, rfl, rfl⟩, List.forall_mem_cons.mpr ⟨⟨px_f201_126, _, _, rfl, rfl⟩, List.forall_mem_cons.mpr ⟨⟨px_f201_132, _, _, rfl, rfl⟩, List.forall_mem_cons.mpr ⟨⟨px_f201_135, _, _, rfl, rfl⟩, List.forall_mem_cons.mpr ⟨⟨px_f201_168, _, _, rfl, rfl⟩, List.forall_mem_cons.mpr ⟨⟨px_f201_174, _, _, rfl, rfl⟩, (fun _ h => absurd h List.not_mem_nil)⟩⟩⟩⟩⟩⟩⟩⟩
set_option maxRecDepth 20000 in
theorem px_ok202 : px_ok 202 := List.forall_mem_cons.mpr ⟨⟨px_f202_0, _, _, rfl, rfl⟩, List.forall_mem_cons.mpr ⟨⟨px_f202_14, _, _, rfl, rfl⟩, List.forall_mem_cons.mpr ⟨⟨px_f202_38, _, _, rfl, rfl⟩, List.forall_mem_cons.mpr ⟨⟨px_f202_84, _, _, rfl, rfl⟩, List.forall_mem_cons.mpr ⟨⟨px_f202_88, _, _, rfl, rfl⟩, List.forall_mem_cons.mpr ⟨⟨px_f202_94, _, _, rfl, rfl⟩, List.forall_mem_cons.mpr ⟨⟨px_f202_103, _, _, rfl, rfl⟩, List.forall_mem_cons.mpr ⟨⟨px_f202_128, _, _, rfl, rfl⟩, List.forall_mem_cons.mpr ⟨⟨px_f202_153, _, _, rfl, rfl⟩, List.forall_mem_cons.mpr ⟨⟨px_f202_154, _, _, rfl, rfl⟩, List.forall_mem_cons.mpr ⟨⟨px_f202_156, _, _, rfl, rfl⟩, List.forall_mem_cons.mpr ⟨⟨px_f202_175, _, _, rfl, rfl⟩, List.forall_mem_cons.mpr ⟨⟨px_f202_176, _, _, rfl, rfl⟩, List.forall_mem_cons.mpr ⟨⟨px_f202_178, _, _, rfl, rfl⟩, List.forall_mem_cons.mpr ⟨⟨px_f202_198, _, _, rfl, rfl⟩, List.forall_mem_cons.mpr ⟨⟨px_f202_199, _, _, rfl, rfl⟩, List.forall_mem_cons.mpr ⟨⟨px_f202_201, _, _, rfl, rfl⟩, List.forall_mem_cons.mpr ⟨⟨px_f202_224, _, _, rfl, rfl⟩, List.forall_mem_cons.mpr ⟨⟨px_f202_225, _, _, rfl, rfl⟩, List.forall_mem_cons.mpr ⟨⟨px_f202_243, _, _, rfl, rfl⟩, List.forall_mem_cons.mpr ⟨⟨px_f202_257, _, _, rfl, rfl⟩, List.forall_mem_cons.mpr ⟨⟨px_f202_263, _, _, rfl, rfl⟩, (fun _ h => absurd h List.not_mem_nil)⟩⟩⟩⟩⟩⟩⟩⟩⟩⟩⟩⟩⟩⟩⟩⟩⟩⟩⟩⟩⟩⟩
set_option maxRecDepth 20000 in
theorem px_ok203 : px_ok 203 := List.forall_mem_cons.mpr ⟨⟨px_f203_0, _, _, rfl, rfl⟩, List.forall_mem_cons.mpr ⟨⟨px_f203_5, _, _, rfl, rfl⟩, List.forall_mem_cons.mpr ⟨⟨px_f203_35, _, _, rfl, rfl⟩, List.forall_mem_cons.mpr ⟨⟨px_f203_41, _, _, rfl, rfl⟩, (fun _ h => absurd h List.not_mem_nil)⟩⟩⟩⟩
set_option maxRecDepth 20000 in
theorem px_ok204 : px_ok 204 := List.forall_mem_cons.mpr ⟨⟨px_f204_0, _, _, rfl, rfl⟩, List.forall_mem_cons.mpr ⟨⟨px_f204_22, _, _, rfl, rfl⟩, List.forall_mem_cons.mpr ⟨⟨px_f204_23, _, _, rfl, rfl⟩, List.forall_mem_cons.mpr ⟨⟨px_f204_43, _, _, rfl, rfl⟩, List.forall_mem_cons.mpr ⟨⟨px_f204_45, _, _, rfl, rfl⟩, List.forall_mem_cons.mpr ⟨⟨px_f204_58, _, _, rfl, rfl⟩, List.forall_mem_cons.mpr ⟨⟨px_f204_74, _, _, rfl, rfl⟩, List.forall_mem_cons.mpr ⟨⟨px_f204_82, _, _, rfl, rfl⟩, (fun _ h => absurd h List.not_mem_nil)⟩⟩⟩⟩⟩⟩⟩⟩
set_option maxRecDepth 20000 in
theorem px_ok205 : px_ok 205 := List.forall_mem_cons.mpr ⟨⟨px_f205_0, _, _, rfl, rfl⟩, List.forall_mem_cons.mpr ⟨⟨px_f205_27, _, _, rfl, rfl⟩, List.forall_mem_cons.mpr ⟨⟨px_f205_29, _, _, rfl, rfl⟩, (fun _ h => absurd h List.not_mem_nil)⟩⟩⟩
set_option maxRecDepth 20000 in
theorem px_ok206 : px_ok 206 := List.forall_mem_cons.mpr ⟨⟨px_f206_0, _, _, rfl, rfl⟩, List.forall_mem_cons.mpr ⟨⟨px_f206_22, _, _, rfl, rfl⟩, List.forall_mem_cons.mpr ⟨⟨px_f206_66, _, _, rfl, rfl⟩, List.forall_mem_cons.mpr ⟨⟨px_f206_67, _, _, rfl, rfl⟩, List.forall_mem_cons.mpr ⟨⟨px_f206_73, _, _, rfl, rfl⟩, List.forall_mem_cons.mpr ⟨⟨px_f206_79, _, _, rfl, rfl⟩, (fun _ h => absurd h List.not_mem_nil)⟩⟩⟩⟩⟩⟩
set_option maxRecDepth 20000 in
theorem px_ok207 : px_ok 207 := List.forall_mem_cons.mpr ⟨⟨px_f207_0, _, _, rfl, rfl⟩, (fun _ h => absurd h List.not_mem_nil)⟩
set_option maxRecDepth 20000 in
theorem px_ok208 : px_ok 208 := List.forall_mem_cons.mpr ⟨⟨px_f208_0, _, _, rfl, rfl⟩, List.forall_mem_cons.mpr ⟨⟨px_f208_16, _, _, rfl, rfl⟩, List.forall_mem_cons.mpr ⟨⟨px_f208_22, _, _, rfl, rfl⟩, List.forall_mem_cons.mpr ⟨⟨px_f208_42, _, _, rfl, rfl⟩, List.forall_mem_cons.mpr ⟨⟨px_f208_59, _, _, rfl, rfl⟩, List.forall_mem_cons.mpr ⟨⟨px_f208_66, _, _, rfl, rfl⟩, (fun _ h => absurd h List.not_mem_nil)⟩⟩⟩⟩⟩⟩
set_option maxRecDepth 20000 in
theorem px_ok209 : px_ok 209 := List.forall_mem_cons.mpr ⟨⟨px_f209_0, _, _, rfl, rfl⟩, List.forall_mem_cons.mpr ⟨⟨px_f209_16, _, _, rfl, rfl⟩, List.forall_mem_cons.mpr ⟨⟨px_f209_22, _, _, rfl, rfl⟩, List.forall_mem_cons.mpr ⟨⟨px_f209_42, _, _, rfl, rfl⟩, List.forall_mem_cons.mpr ⟨⟨px_f209_59, _, _, rfl, rfl⟩, List.forall_mem_cons.mpr ⟨⟨px_f209_66, _, _, rfl, rfl⟩, List.forall_mem_cons.mpr ⟨⟨px_f209_96, _, _, rfl, rfl⟩, List.forall_mem_cons.mpr ⟨⟨px_f209_163, _, _, rfl, rfl⟩, List.forall_mem_cons.mpr ⟨⟨px_f209_164, _, _, rfl, rfl⟩, List.forall_mem_cons.mpr ⟨⟨px_f209_172, _, _, rfl, rfl⟩, List.forall_mem_cons.mpr ⟨⟨px_f209_178, _, _, rfl, rfl⟩, (fun _ h => absurd h List.not_mem_nil)⟩⟩⟩⟩⟩⟩⟩⟩⟩⟩⟩
set_option maxRecDepth 20000 in
theorem px_ok210 : px_ok 210 := List.forall_mem_cons.mpr ⟨⟨px_f210_0, _, _, rfl, rfl⟩, List.forall_mem_cons.mpr ⟨⟨px_f210_2, _, _, rfl, rfl⟩, List.forall_mem_cons.mpr ⟨⟨px_f210_22, _, _, rfl, rfl⟩, List.forall_mem_cons.mpr ⟨⟨px_f210_28, _, _, rfl, rfl⟩, (fun _ h => absurd h List.not_mem_nil)⟩⟩⟩⟩
set_option maxRecDepth 20000 in
theorem px_ok211 : px_ok 211 := List.forall_mem_cons.mpr ⟨⟨px_f211_0, _, _, rfl, rfl⟩, List.forall_mem_cons.mpr ⟨⟨px_f211_19, _, _, rfl, rfl⟩, List.forall_mem_cons.mpr ⟨⟨px_f211_37, _, _, rfl, rfl⟩, List.forall_mem_cons.mpr ⟨⟨px_f211_59, _, _, rfl, rfl⟩, List.forall_mem_cons.mpr ⟨⟨px_f211_80, _, _, rfl, rfl⟩, List.forall_mem_cons.mpr ⟨⟨px_f211_83, _, _, rfl, rfl⟩, List.forall_mem_cons.mpr ⟨⟨px_f211_104, _, _, rfl, rfl⟩, List.forall_mem_cons.mpr ⟨⟨px_f211_105, _, _, rfl, rfl⟩, List.forall_mem_cons.mpr ⟨⟨px_f211_106, _, _, rfl, rfl⟩, List.forall_mem_cons.mpr ⟨⟨px_f211_112, _, _, rfl, rfl⟩, List.forall_mem_cons.mpr ⟨⟨px_f211_115, _, _, rfl, rfl⟩, List.forall_mem_cons.mpr ⟨⟨px_f211_144, _, _, rfl, rfl⟩, List.forall_mem_cons.mpr ⟨⟨px_f211_152, _, _, rfl, rfl⟩, List.forall_mem_cons.mpr ⟨⟨px_f211_158, _, _, rfl, rfl⟩, List.forall_mem_cons.mpr ⟨⟨px_f211_185, _, _, rfl, rfl⟩, List.forall_mem_cons.mpr ⟨⟨px_f211_188, _, _, rfl, rfl⟩, List.forall_mem_cons.mpr ⟨⟨px_f211_233, _, _, rfl, rfl⟩, List.forall_mem_cons.mpr ⟨⟨px_f211_246, _, _, rfl, rfl⟩, List.forall_mem_cons.mpr ⟨⟨px_f211_252, _, _, rfl, rfl⟩, (fun _ h => absurd h List.not_mem_nil)⟩⟩⟩⟩⟩⟩⟩⟩⟩⟩⟩⟩⟩⟩⟩⟩⟩⟩⟩
set_option maxRecDepth 20000 in
theorem px_ok212 : px_ok 212 := List.forall_mem_cons.mpr ⟨⟨px_f212_0, _, _, rfl, rfl⟩, List.forall_mem_cons.mpr ⟨⟨px_f212_3, _, _, rfl, rfl⟩, List.forall_mem_cons.mpr ⟨⟨px_f212_40, _, _, rfl, rfl⟩, (fun _ h => absurd h List.not_mem_nil)⟩⟩⟩
set_option maxRecDepth 20000 in
theorem px_ok213 : px_ok 213 := List.forall_mem_cons.mpr ⟨⟨px_f213_0, _, _, rfl, rfl⟩, List.forall_mem_cons.mpr ⟨⟨px_f213_20, _, _, rfl, rfl⟩, List.forall_mem_cons.mpr ⟨⟨px_f213_36, _, _, rfl, rfl⟩, List.forall_mem_cons.mpr ⟨⟨px_f213_43, _, _, rfl, rfl⟩, (fun _ h => absurd h List.not_mem_nil)⟩⟩⟩⟩
set_option maxRecDepth 20000 in
theorem px_ok214 : px_ok 214 := List.forall_mem_cons.mpr ⟨⟨px_f214_0, _, _, rfl, rfl⟩, List.forall_mem_cons.mpr ⟨⟨px_f214_20, _, _, rfl, rfl⟩, List.forall_mem_cons.mpr ⟨⟨px_f214_36, _, _, rfl, rfl⟩, List.forall_mem_cons.mpr ⟨⟨px_f214_43, _, _, rfl, rfl⟩, (fun _ h => absurd h List.not_mem_nil)⟩⟩⟩⟩
set_option maxRecDepth 20000 in
theorem px_ok215 : px_ok 215 := List.forall_mem_cons.mpr ⟨⟨px_f215_0, _, _, rfl, rfl⟩, List.forall_mem_cons.mpr ⟨⟨px_f215_5, _, _, rfl, rfl⟩, List.forall_mem_cons.mpr ⟨⟨px_f215_41, _, _, rfl, rfl⟩, List.forall_mem_cons.mpr ⟨⟨px_f215_47, _, _, rfl, rfl⟩, (fun _ h => absurd h List.not_mem_nil)⟩⟩⟩⟩
set_option maxRecDepth 20000 in
theorem px_ok216 : px_ok 216 := List.forall_mem_cons.mpr ⟨⟨px_f216_0, _, _, rfl, rfl⟩, List.forall_mem_cons.mpr ⟨⟨px_f216_25, _, _, rfl, rfl⟩, List.forall_mem_cons.mpr ⟨⟨px_f216_30, _, _, rfl, rfl⟩, (fun _ h => absurd h List.not_mem_nil)⟩⟩⟩
set_option maxRecDepth 20000 in
theorem px_ok217 : px_ok 217 := List.forall_mem_cons.mpr ⟨⟨px_f217_0, _, _, rfl, rfl⟩, List.forall_mem_cons.mpr ⟨⟨px_f217_2, _, _, rfl, rfl⟩, List.forall_mem_cons.mpr ⟨⟨px_f217_15, _, _, rfl, rfl⟩, List.forall_mem_cons.mpr ⟨⟨px_f217_51, _, _, rfl, rfl⟩, List.forall_mem_cons.mpr ⟨⟨px_f217_69, _, _, rfl, rfl⟩, (fun _ h => absurd h List.not_mem_nil)⟩⟩⟩⟩⟩
set_option maxRecDepth 20000 in
theorem px_ok218 : px_ok 218 := List.forall_mem_cons.mpr ⟨⟨px_f218_0, _, _, rfl, rfl⟩, List.forall_mem_cons.mpr ⟨⟨px_f218_2, _, _, rfl, rfl⟩, List.forall_mem_cons.mpr ⟨⟨px_f218_26, _, _, rfl, rfl⟩, List.forall_mem_cons.mpr ⟨⟨px_f218_63, _, _, rfl, rfl⟩, List.forall_mem_cons.mpr ⟨⟨px_f218_69, _, _, rfl, rfl⟩, List.forall_mem_cons.mpr ⟨⟨px_f218_75, _, _, rfl, rfl⟩, (fun _ h => absurd h List.not_mem_nil)⟩⟩⟩⟩⟩⟩
set_option maxRecDepth 20000 in
theorem px_ok219 : px_ok 219 := List.forall_mem_cons.mpr ⟨⟨px_f219_0, _, _, rfl, rfl⟩, List.forall_mem_cons.mpr ⟨⟨px_f219_2, _, _, rfl, rfl⟩, List.forall_mem_cons.mpr ⟨⟨px_f219_21, _, _, rfl, rfl⟩, List.forall_mem_cons.mpr ⟨⟨px_f219_43, _, _, rfl, rfl⟩, List.forall_mem_cons.mpr ⟨⟨px_f219_45, _, _, rfl, rfl⟩, List.forall_mem_cons.mpr ⟨⟨px_f219_51, _, _, rfl, rfl⟩, (fun _ h => absurd h List.not_mem_nil)⟩⟩⟩⟩⟩⟩
set_option maxRecDepth 20000 in
theorem px_ok220 : px_ok 220 := List.forall_mem_cons.mpr ⟨⟨px_f220_0, _, _, rfl, rfl⟩, List.forall_mem_cons.mpr ⟨⟨px_f220_12, _, _, rfl, rfl⟩, List.forall_mem_cons.mpr ⟨⟨px_f220_89, _, _, rfl, rfl⟩, List.forall_mem_cons.mpr ⟨⟨px_f220_93, _, _, rfl, rfl⟩, List.forall_mem_cons.mpr ⟨⟨px_f220_97, _, _, rfl, rfl⟩, List.forall_mem_cons.mpr ⟨⟨px_f220_108, _, _, rfl, rfl⟩, List.forall_mem_cons.mpr ⟨⟨px_f220_109, _, _, rfl, rfl⟩, List.forall_mem_cons.mpr ⟨⟨px_f220_119, _, _, rfl, rfl⟩, List.forall_mem_cons.mpr ⟨⟨px_f220_145, _, _, rfl, rfl⟩, List.forall_mem_cons.mpr ⟨⟨px_f220_149, _, _, rfl, rfl⟩, List.forall_mem_cons.mpr ⟨⟨px_f220_155, _, _, rfl, rfl⟩, (fun _ h => absurd h List.not_mem_nil)⟩⟩⟩⟩⟩⟩⟩⟩⟩⟩⟩
set_option maxRecDepth 20000 in
theorem px_ok221 : px_ok 221 := List.forall_mem_cons.mpr ⟨⟨px_f221_0, _, _, rfl, rfl⟩, List.forall_mem_cons.mpr ⟨⟨px_f221_14, _, _, rfl, rfl⟩, List.forall_mem_cons.mpr ⟨⟨px_f221_29, _, _, rfl, rfl⟩, List.forall_mem_cons.mpr ⟨⟨px_f221_53, _, _, rfl, rfl⟩, List.forall_mem_cons.mpr ⟨⟨px_f221_55, _, _, rfl, rfl⟩, (fun _ h => absurd h List.not_mem_nil)⟩⟩⟩⟩⟩
set_option maxRecDepth 20000 in
theorem px_ok222 : px_ok 222 := List.forall_mem_cons.mpr ⟨⟨px_f222_0, _, _, rfl, rfl⟩, (fun _ h => absurd h List.not_mem_nil)⟩
set_option maxRecDepth 20000 in
theorem px_ok223 : px_ok 223 := List.forall_mem_cons.mpr ⟨⟨px_f223_0, _, _, rfl, rfl⟩, (fun _ h => absurd h List.not_mem_nil)⟩
set_option maxRecDepth 20000 in
theorem px_ok224 : px_ok 224 := List.forall_mem_cons.mpr ⟨⟨px_f224_0, _, _, rfl, rfl⟩, (fun _ h => absurd h List.not_mem_nil)⟩
set_option maxRecDepth 20000 in
theorem px_ok225 : px_ok 225 := List.forall_mem_cons.mpr ⟨⟨px_f225_0, _, _, rfl, rfl⟩, List.forall_mem_cons.mpr ⟨⟨px_f225_14, _, _, rfl, rfl⟩, List.forall_mem_cons.mpr ⟨⟨px_f225_29, _, _, rfl, rfl⟩, List.forall_mem_cons.mpr ⟨⟨px_f225_40, _, _, rfl, rfl⟩, List.forall_mem_cons.mpr ⟨⟨px_f225_63, _, _, rfl, rfl⟩, List.forall_mem_cons.mpr ⟨⟨px_f225_78, _, _, rfl, rfl⟩, List.forall_mem_cons.mpr ⟨⟨px_f225_93, _, _, rfl, rfl⟩, List.forall_mem_cons.mpr ⟨⟨px_f225_147, _, _, rfl, rfl⟩, List.forall_mem_cons.mpr ⟨⟨px_f225_151, _, _, rfl, rfl⟩, List.forall_mem_cons.mpr ⟨⟨px_f225_157, _, _, rfl, rfl⟩, List.forall_mem_cons.mpr ⟨⟨px_f225_165, _, _, rfl, rfl⟩, List.forall_mem_cons.mpr ⟨⟨px_f225_198, _, _, rfl, rfl⟩, List.forall_mem_cons.mpr ⟨⟨px_f225_209, _, _, rfl, rfl⟩, List.forall_mem_cons.mpr ⟨⟨px_f225_210, _, _, rfl, rfl⟩, List.forall_mem_cons.mpr ⟨⟨px_f225_211, _, _, rfl, rfl⟩, List.forall_mem_cons.mpr ⟨⟨px_f225_217, _, _, rfl, rfl⟩, (fun _ h => absurd h List.not_mem_nil)⟩⟩⟩⟩⟩⟩⟩⟩⟩⟩⟩⟩⟩⟩⟩⟩
set_option maxRecDepth 20000 in
theorem px_ok226 : px_ok 226 := List.forall_mem_cons.mpr ⟨⟨px_f226_0, _, _, rfl, rfl⟩, List.forall_mem_cons.mpr ⟨⟨px_f226_15, _, _, rfl, rfl⟩, List.forall_mem_cons.mpr ⟨⟨px_f226_22, _, _, rfl, rfl⟩, List.forall_mem_cons.mpr ⟨⟨px_f226_50, _, _, rfl, rfl⟩, List.forall_mem_cons.mpr ⟨⟨px_f226_74, _, _, rfl, rfl⟩, List.forall_mem_cons.mpr ⟨⟨px_f226_80, _, _, rfl, rfl⟩, List.forall_mem_cons.mpr ⟨⟨px_f226_86, _, _, rfl, rfl⟩, List.forall_mem_cons.mpr ⟨⟨px_f226_100, _, _, rfl, rfl⟩, List.forall_mem_cons.mpr ⟨⟨px_f226_101, _, _, rfl, rfl⟩, (fun _ h => absurd h List.not_mem_nil)⟩⟩⟩⟩⟩⟩⟩⟩⟩
set_option maxRecDepth 20000 in
theorem px_ok227 : px_ok 227 := List.forall_mem_cons.mpr ⟨⟨px_f227_0, _, _, rfl, rfl⟩, List.forall_mem_cons.mpr ⟨⟨px_f227_14, _, _, rfl, rfl⟩, List.forall_mem_cons.mpr ⟨⟨px_f227_18, _, _, rfl, rfl⟩, List.forall_mem_cons.mpr ⟨⟨px_f227_61, _, _, rfl, rfl⟩, List.forall_mem_cons.mpr ⟨⟨px_f227_67, _, _, rfl, rfl⟩, (fun _ h => absurd h List.not_mem_nil)⟩⟩⟩⟩⟩
set_option maxRecDepth 20000 in
theorem px_ok228 : px_ok 228 := List.forall_mem_cons.mpr ⟨⟨px_f228_0, _, _, rfl, rfl⟩, List.forall_mem_cons.mpr ⟨⟨px_f228_6, _, _, rfl, rfl⟩, List.forall_mem_cons.mpr ⟨⟨px_f228_27, _, _, rfl, rfl⟩, List.forall_mem_cons.mpr ⟨⟨px_f228_65, _, _, rfl, rfl⟩, List.forall_mem_cons.mpr ⟨⟨px_f228_74, _, _, rfl, rfl⟩, List.forall_mem_cons.mpr ⟨⟨px_f228_80, _, _, rfl, rfl⟩, List.forall_mem_cons.mpr ⟨⟨px_f228_100, _, _, rfl, rfl⟩, List.forall_mem_cons.mpr ⟨⟨px_f228_105, _, _, rfl, rfl⟩, List.forall_mem_cons.mpr ⟨⟨px_f228_111, _, _, rfl, rfl⟩, (fun _ h => absurd h List.not_mem_nil)⟩⟩⟩⟩⟩⟩⟩⟩⟩
set_option maxRecDepth 20000 in
theorem px_ok229 : px_ok 229 := List.forall_mem_cons.mpr ⟨⟨px_f229_0, _, _, rfl, rfl⟩, List.forall_mem_cons.mpr ⟨⟨px_f229_16, _, _, rfl, rfl⟩, List.forall_mem_cons.mpr ⟨⟨px_f229_22, _, _, rfl, rfl⟩, List.forall_mem_cons.mpr ⟨⟨px_f229_42, _, _, rfl, rfl⟩, List.forall_mem_cons.mpr ⟨⟨px_f229_57, _, _, rfl, rfl⟩, List.forall_mem_cons.mpr ⟨⟨px_f229_90, _, _, rfl, rfl⟩, List.forall_mem_cons.mpr ⟨⟨px_f229_112, _, _, rfl, rfl⟩, List.forall_mem_cons.mpr ⟨⟨px_f229_140, _, _, rfl, rfl⟩, List.forall_mem_cons.mpr ⟨⟨px_f229_141, _, _, rfl, rfl⟩, List.forall_mem_cons.mpr ⟨⟨px_f229_156, _, _, rfl, rfl⟩, List.forall_mem_cons.mpr ⟨⟨px_f229_164, _, _, rfl, rfl⟩, List.forall_mem_cons.mpr ⟨⟨px_f229_170, _, _, rfl, rfl⟩, (fun _ h => absurd h List.not_mem_nil)⟩⟩⟩⟩⟩⟩⟩⟩⟩⟩⟩⟩
set_option maxRecDepth 20000 in
theorem px_ok230 : px_ok 230 := List.forall_mem_cons.mpr ⟨⟨px_f230_0, _, _, rfl, rfl⟩, List.forall_mem_cons.mpr ⟨⟨px_f230_12, _, _, rfl, rfl⟩, List.forall_mem_cons.mpr ⟨⟨px_f230_18, _, _, rfl, rfl⟩, List.forall_mem_cons.mpr ⟨⟨px_f230_33, _, _, rfl, rfl⟩, List.forall_mem_cons.mpr ⟨⟨px_f230_44, _, _, rfl, rfl⟩, List.forall_mem_cons.mpr ⟨⟨px_f230_49, _, _, rfl, rfl⟩, List.forall_mem_cons.mpr ⟨⟨px_f230_98, _, _, rfl, rfl⟩, List.forall_mem_cons.mpr ⟨⟨px_f230_104, _, _, rfl, rfl⟩, (fun _ h => absurd h List.not_mem_nil)⟩⟩⟩⟩⟩⟩⟩⟩
set_option maxRecDepth 20000 in
theorem px_ok231 : px_ok 231 := List.forall_mem_cons.mpr ⟨⟨px_f231_0, _, _, rfl, rfl⟩, List.forall_mem_cons.mpr ⟨⟨px_f231_15, _, _, rfl, rfl⟩, List.forall_mem_cons.mpr ⟨⟨px_f231_20, _, _, rfl, rfl⟩, List.forall_mem_cons.mpr ⟨⟨px_f231_42, _, _, rfl, rfl⟩, List.forall_mem_cons.mpr ⟨⟨px_f231_50, _, _, rfl, rfl⟩, (fun _ h => absurd h List.not_mem_nil)⟩⟩⟩⟩⟩
set_option maxRecDepth 20000 in
theorem px_ok232 : px_ok 232 := List.forall_mem_cons.mpr ⟨⟨px_f232_0, _, _, rfl, rfl⟩, List.forall_mem_cons.mpr ⟨⟨px_f232_12, _, _, rfl, rfl⟩, List.forall_mem_cons.mpr ⟨⟨px_f232_19, _, _, rfl, rfl⟩, List.forall_mem_cons.mpr ⟨⟨px_f232_30, _, _, rfl, rfl⟩, List.forall_mem_cons.mpr ⟨⟨px_f232_53, _, _, rfl, rfl⟩, List.forall_mem_cons.mpr ⟨⟨px_f232_120, _, _, rfl, rfl⟩, List.forall_mem_cons.mpr ⟨⟨px_f232_125, _, _, rfl, rfl⟩, List.forall_mem_cons.mpr ⟨⟨px_f232_127, _, _, rfl, rfl⟩, List.forall_mem_cons.mpr ⟨⟨px_f232_129, _, _, rfl, rfl⟩, List.forall_mem_cons.mpr ⟨⟨px_f232_135, _, _, rfl, rfl⟩, List.forall_mem_cons.mpr ⟨⟨px_f232_141, _, _, rfl, rfl⟩, List.forall_mem_cons.mpr ⟨⟨px_f232_151, _, _, rfl, rfl⟩, List.forall_mem_cons.mpr ⟨⟨px_f232_161, _, _, rfl, rfl⟩, (fun _ h => absurd h List.not_mem_nil)⟩⟩⟩⟩⟩⟩⟩⟩⟩⟩⟩⟩⟩
set_option maxRecDepth 20000 in
theorem px_ok233 : px_ok 233 := List.forall_mem_cons.mpr ⟨⟨px_f233_0, _, _, rfl, rfl⟩, List.forall_mem_cons.mpr ⟨⟨px_f233_16, _, _, rfl, rfl⟩, List.forall_mem_cons.mpr ⟨⟨px_f233_22, _, _, rfl, rfl⟩, List.forall_mem_cons.mpr ⟨⟨px_f233_27, _, _, rfl, rfl⟩, List.forall_mem_cons.mpr ⟨⟨px_f233_57, _, _, rfl, rfl⟩, List.forall_mem_cons.mpr ⟨⟨px_f233_58, _, _, rfl, rfl⟩, List.forall_mem_cons.mpr ⟨⟨px_f233_64, _, _, rfl, rfl⟩, List.forall_mem_cons.mpr ⟨⟨px_f233_70, _, _, rfl, rfl⟩, (fun _ h => absurd h List.not_mem_nil)⟩⟩⟩⟩⟩⟩⟩⟩
set_option maxRecDepth 20000 in
theorem px_ok234 : px_ok 234 := List.forall_mem_cons.mpr ⟨⟨px_f234_0, _, _, rfl, rfl⟩, List.forall_mem_cons.mpr ⟨⟨px_f234_16, _, _, rfl, rfl⟩, List.forall_mem_cons.mpr ⟨⟨px_f234_22, _, _, rfl, rfl⟩, List.forall_mem_cons.mpr ⟨⟨px_f234_24, _, _, rfl, rfl⟩, List.forall_mem_cons.mpr ⟨⟨px_f234_50, _, _, rfl, rfl⟩, List.forall_mem_cons.mpr ⟨⟨px_f234_51, _, _, rfl, rfl⟩, List.forall_mem_cons.mpr ⟨⟨px_f234_65, _, _, rfl, rfl⟩, (fun _ h => absurd h List.not_mem_nil)⟩⟩⟩⟩⟩⟩⟩
set_option maxRecDepth 20000 in
theorem px_ok235 : px_ok 235 := List.forall_mem_cons.mpr ⟨⟨px_f235_0, _, _, rfl, rfl⟩, List.forall_mem_cons.mpr ⟨⟨px_f235_16, _, _, rfl, rfl⟩, List.forall_mem_cons.mpr ⟨⟨px_f235_22, _, _, rfl, rfl⟩, List.forall_mem_cons.mpr ⟨⟨px_f235_42, _, _, rfl, rfl⟩, List.forall_mem_cons.mpr ⟨⟨px_f235_49, _, _, rfl, rfl⟩, List.forall_mem_cons.mpr ⟨⟨px_f235_67, _, _, rfl, rfl⟩, List.forall_mem_cons.mpr ⟨⟨px_f235_74, _, _, rfl, rfl⟩, List.forall_mem_cons.mpr ⟨⟨px_f235_89, _, _, rfl, rfl⟩, List.forall_mem_cons.mpr ⟨⟨px_f235_92, _, _, rfl, rfl⟩, List.forall_mem_cons.mpr ⟨⟨px_f235_120, _, _, rfl, rfl⟩, List.forall_mem_cons.mpr ⟨⟨px_f235_121, _, _, rfl, rfl⟩, List.forall_mem_cons.mpr ⟨⟨px_f235_140, _, _, rfl, rfl⟩, List.forall_mem_cons.mpr ⟨⟨px_f235_146, _, _, rfl, rfl⟩, (fun _ h => absurd h List.not_mem_nil)⟩⟩⟩⟩⟩⟩⟩⟩⟩⟩⟩⟩⟩
set_option maxRecDepth 20000 in
theorem px_ok236 : px_ok 236 := List.forall_mem_cons.mpr ⟨⟨px_f236_0, _, _, rfl, rfl⟩, List.forall_mem_cons.mpr ⟨⟨px_f236_19, _, _, rfl, rfl⟩, (fun _ h => absurd h List.not_mem_nil)⟩⟩
set_option maxRecDepth 20000 in
theorem px_ok237 : px_ok 237 := List.forall_mem_cons.mpr ⟨⟨px_f237_0, _, _, rfl, rfl⟩, List.forall_mem_cons.mpr ⟨⟨px_f237_18, _, _, rfl, rfl⟩, List.forall_mem_cons.mpr ⟨⟨px_f237_29, _, _, rfl, rfl⟩, List.forall_mem_cons.mpr ⟨⟨px_f237_40, _, _, rfl, rfl⟩, List.forall_mem_cons.mpr ⟨⟨px_f237_68, _, _, rfl, rfl⟩, List.forall_mem_cons.mpr ⟨⟨px_f237_80, _, _, rfl, rfl⟩, List.forall_mem_cons.mpr ⟨⟨px_f237_92, _, _, rfl, rfl⟩, List.forall_mem_cons.mpr ⟨⟨px_f237_94, _, _, rfl, rfl⟩, (fun _ h => absurd h List.not_mem_nil)⟩⟩⟩⟩⟩⟩⟩⟩
set_option maxRecDepth 20000 in
theorem px_ok238 : px_ok 238 := List.forall_mem_cons.mpr ⟨⟨px_f238_0, _, _, rfl, rfl⟩, List.forall_mem_cons.mpr ⟨⟨px_f238_26, _, _, rfl, rfl⟩, List.forall_mem_cons.mpr ⟨⟨px_f238_41, _, _, rfl, rfl⟩, List.forall_mem_cons.mpr ⟨⟨px_f238_45, _, _, rfl, rfl⟩, List.forall_mem_cons.mpr ⟨⟨px_f238_46, _, _, rfl, rfl⟩, List.forall_mem_cons.mpr ⟨⟨px_f238_59, _, _, rfl, rfl⟩, List.forall_mem_cons.mpr ⟨⟨px_f238_71, _, _, rfl, rfl⟩, List.forall_mem_cons.mpr ⟨⟨px_f238_100, _, _, rfl, rfl⟩, List.forall_mem_cons.mpr ⟨⟨px_f238_113, _, _, rfl, rfl⟩, List.forall_mem_cons.mpr ⟨⟨px_f238_115, _, _, rfl, rfl⟩, (fun _ h => absurd h List.not_mem_nil)⟩⟩⟩⟩⟩⟩⟩⟩⟩⟩
set_option maxRecDepth 20000 in
theorem px_ok239 : px_ok 239 := List.forall_mem_cons.mpr ⟨⟨px_f239_0, _, _, rfl, rfl⟩, List.forall_mem_cons.mpr ⟨⟨px_f239_21, _, _, rfl, rfl⟩, List.forall_mem_cons.mpr ⟨⟨px_f239_43, _, _, rfl, rfl⟩, List.forall_mem_cons.mpr ⟨⟨px_f239_88, _, _, rfl, rfl⟩, List.forall_mem_cons.mpr ⟨⟨px_f239_90, _, _, rfl, rfl⟩, (fun _ h => absurd h List.not_mem_nil)⟩⟩⟩⟩⟩
set_option maxRecDepth 20000 in
theorem px_ok240 : px_ok 240 := List.forall_mem_cons.mpr ⟨⟨px_f240_0, _, _, rfl, rfl⟩, List.forall_mem_cons.mpr ⟨⟨px_f240_32, _, _, rfl, rfl⟩, List.forall_mem_cons.mpr ⟨⟨px_f240_34, _, _, rfl, rfl⟩, List.forall_mem_cons.mpr ⟨⟨px_f240_47, _, _, rfl, rfl⟩, List.forall_mem_cons.mpr ⟨⟨px_f240_61, _, _, rfl, rfl⟩, List.forall_mem_cons.mpr ⟨⟨px_f240_67, _, _, rfl, rfl⟩, (fun _ h => absurd h List.not_mem_nil)⟩⟩⟩⟩⟩⟩
set_option maxRecDepth 20000 in
theorem px_ok241 : px_ok 241 := List.forall_mem_cons.mpr ⟨⟨px_f241_0, _, _, rfl, rfl⟩, List.forall_mem_cons.mpr ⟨⟨px_f241_27, _, _, rfl, rfl⟩, List.forall_mem_cons.mpr ⟨⟨px_f241_28, _, _, rfl, rfl⟩, (fun _ h => absurd h List.not_mem_nil)⟩⟩⟩
set_option maxRecDepth 20000 in
theorem px_ok242 : px_ok 242 := List.forall_mem_cons.mpr ⟨⟨px_f242_0, _, _, rfl, rfl⟩, List.forall_mem_cons.mpr ⟨⟨px_f242_3, _, _, rfl, rfl⟩, List.forall_mem_cons.mpr ⟨⟨px_f242_30, _, _, rfl, rfl⟩, List.forall_mem_cons.mpr ⟨⟨px_f242_43, _, _, rfl, rfl⟩, List.forall_mem_cons.mpr ⟨⟨px_f242_49, _, _, rfl, rfl⟩, (fun _ h => absurd h List.not_mem_nil)⟩⟩⟩⟩⟩
set_option maxRecDepth 20000 in
theorem px_ok243 : px_ok 243 := List.forall_mem_cons.mpr ⟨⟨px_f243_0, _, _, rfl, rfl⟩, List.forall_mem_cons.mpr ⟨⟨px_f243_80, _, _, rfl, rfl⟩, List.forall_mem_cons.mpr ⟨⟨px_f243_163, _, _, rfl, rfl⟩, (fun _ h => absurd h List.not_mem_nil)⟩⟩⟩
set_option maxRecDepth 20000 in
theorem px_ok244 : px_ok 244 := List.forall_mem_cons.mpr ⟨⟨px_f244_0, _, _, rfl, rfl⟩, (fun _ h => absurd h List.not_mem_nil)⟩
set_option maxRecDepth 20000 in
theorem px_ok245 : px_ok 245 := List.forall_mem_cons.mpr ⟨⟨px_f245_0, _, _, rfl, rfl⟩, List.forall_mem_cons.mpr ⟨⟨px_f245_14, _, _, rfl, rfl⟩, (fun _ h => absurd h List.not_mem_nil)⟩⟩
set_option maxRecDepth 20000 in
theorem px_ok246 : px_ok 246 := List.forall_mem_cons.mpr ⟨⟨px_f246_0, _, _, rfl, rfl⟩, List.forall_mem_cons.mpr ⟨⟨px_f246_22, _, _, rfl, rfl⟩, List.forall_mem_cons.mpr ⟨⟨px_f246_76, _, _, rfl, rfl⟩, List.forall_mem_cons.mpr ⟨⟨px_f246_81, _, _, rfl, rfl⟩, List.forall_mem_cons.mpr ⟨⟨px_f246_86, _, _, rfl, rfl⟩, List.forall_mem_cons.mpr ⟨⟨px_f246_95, _, _, rfl, rfl⟩, List.forall_mem_cons.mpr ⟨⟨px_f246_99, _, _, rfl, rfl⟩, List.forall_mem_cons.mpr ⟨⟨px_f246_122, _, _, rfl, rfl⟩, List.forall_mem_cons.mpr ⟨⟨px_f246_128, _, _, rfl, rfl⟩, List.forall_mem_cons.mpr ⟨⟨px_f246_136, _, _, rfl, rfl⟩, List.forall_mem_cons.mpr ⟨⟨px_f246_138, _, _, rfl, rfl⟩, List.forall_mem_cons.mpr ⟨⟨px_f246_143, _, _, rfl, rfl⟩, List.forall_mem_cons.mpr ⟨⟨px_f246_148, _, _, rfl, rfl⟩, List.forall_mem_cons.mpr ⟨⟨px_f246_153, _, _, rfl, rfl⟩, List.forall_mem_cons.mpr ⟨⟨px_f246_158, _, _, rfl, rfl⟩, List.forall_mem_cons.mpr ⟨⟨px_f246_163, _, _, rfl, rfl⟩, List.forall_mem_cons.mpr ⟨⟨px_f246_168, _, _, rfl, rfl⟩, (fun _ h => absurd h List.not_mem_nil)⟩⟩⟩⟩⟩⟩⟩⟩⟩⟩⟩⟩⟩⟩⟩⟩⟩
set_option maxRecDepth 20000 in
theorem px_ok247 : px_ok 247 := List.forall_mem_cons.mpr ⟨⟨px_f247_0, _, _, rfl, rfl⟩, (fun _ h => absurd h List.not_mem_nil)⟩
set_option maxRecDepth 20000 in
theorem px_ok248 : px_ok 248 := List.forall_mem_cons.mpr ⟨⟨px_f248_0, _, _, rfl, rfl⟩, List.forall_mem_cons.mpr ⟨⟨px_f248_9, _, _, rfl, rfl⟩, List.forall_mem_cons.mpr ⟨⟨px_f248_10, _, _, rfl, rfl⟩, (fun _ h => absurd h List.not_mem_nil)⟩⟩⟩
set_option maxRecDepth 20000 in
theorem px_ok249 : px_ok 249 := List.forall_mem_cons.mpr ⟨⟨px_f249_0, _, _, rfl, rfl⟩, List.forall_mem_cons.mpr ⟨⟨px_f249_9, _, _, rfl, rfl⟩, List.forall_mem_cons.mpr ⟨⟨px_f249_10, _, _, rfl, rfl⟩, (fun _ h => absurd h List.not_mem_nil)⟩⟩⟩
set_option maxRecDepth 20000 in
theorem px_ok250 : px_ok 250 := List.forall_mem_cons.mpr ⟨⟨px_f250_0, _, _, rfl, rfl⟩, List.forall_mem_cons.mpr ⟨⟨px_f250_9, _, _, rfl, rfl⟩, List.forall_mem_cons.mpr ⟨⟨px_f250_10, _, _, rfl, rfl⟩, (fun _ h => absurd h List.not_mem_nil)⟩⟩⟩
set_option maxRecDepth 20000 in
theorem px_ok251 : px_ok 251 := List.forall_mem_cons.mpr ⟨⟨px_f251_0, _, _, rfl, rfl⟩, (fun _ h => absurd h List.not_mem_nil)⟩
set_option maxRecDepth 20000 in
theorem px_ok252 : px_ok 252 := List.forall_mem_cons.mpr ⟨⟨px_f252_0, _, _, rfl, rfl⟩, List.forall_mem_cons.mpr ⟨⟨px_f252_16, _, _, rfl, rfl⟩, (fun _ h => absurd h List.not_mem_nil)⟩⟩
set_option maxRecDepth 20000 in
theorem px_ok253 : px_ok 253 := List.forall_mem_cons.mpr ⟨⟨px_f253_0, _, _, rfl, rfl⟩, List.forall_mem_cons.mpr ⟨⟨px_f253_13, _, _, rfl, rfl⟩, List.forall_mem_cons.mpr ⟨⟨px_f253_14, _, _, rfl, rfl⟩, (fun _ h => absurd h List.not_mem_nil)⟩⟩⟩
set_option maxRecDepth 20000 in
theorem px_ok254 : px_ok 254 := List.forall_mem_cons.mpr ⟨⟨px_f254_0, _, _, rfl, rfl⟩, List.forall_mem_cons.mpr ⟨⟨px_f254_17, _, _, rfl, rfl⟩, List.forall_mem_cons.mpr ⟨⟨px_f254_18, _, _, rfl, rfl⟩, (fun _ h => absurd h List.not_mem_nil)⟩⟩⟩
set_option maxRecDepth 20000 in
theorem px_ok255 : px_ok 255 := List.forall_mem_cons.mpr ⟨⟨px_f255_0, _, _, rfl, rfl⟩, (fun _ h => absurd h List.not_mem_nil)⟩
set_option maxRecDepth 20000 in
theorem px_ok256 : px_ok 256 := List.forall_mem_cons.mpr ⟨⟨px_f256_0, _, _, rfl, rfl⟩, (fun _ h => absurd h List.not_mem_nil)⟩
set_option maxRecDepth 20000 in
theorem px_ok257 : px_ok 257 := List.forall_mem_cons.mpr ⟨⟨px_f257_0, _, _, rfl, rfl⟩, List.forall_mem_cons.mpr ⟨⟨px_f257_6, _, _, rfl, rfl⟩, List.forall_mem_cons.mpr ⟨⟨px_f257_22, _, _, rfl, rfl⟩, (fun _ h => absurd h List.not_mem_nil)⟩⟩⟩
set_option maxRecDepth 20000 in
theorem px_ok258 : px_ok 258 := List.forall_mem_cons.mpr ⟨⟨px_f258_0, _, _, rfl, rfl⟩, List.forall_mem_cons.mpr ⟨⟨px_f258_5, _, _, rfl, rfl⟩, List.forall_mem_cons.mpr ⟨⟨px_f258_20, _, _, rfl, rfl⟩, (fun _ h => absurd h List.not_mem_nil)⟩⟩⟩
set_option maxRecDepth 20000 in
theorem px_ok259 : px_ok 259 := List.forall_mem_cons.mpr ⟨⟨px_f259_0, _, _, rfl, rfl⟩, List.forall_mem_cons.mpr ⟨⟨px_f259_9, _, _, rfl, rfl⟩, List.forall_mem_cons.mpr ⟨⟨px_f259_16, _, _, rfl, rfl⟩, (fun _ h => absurd h List.not_mem_nil)⟩⟩⟩
set_option maxRecDepth 20000 in
theorem px_ok260 : px_ok 260 := List.forall_mem_cons.mpr ⟨⟨px_f260_0, _, _, rfl, rfl⟩, List.forall_mem_cons.mpr ⟨⟨px_f260_18, _, _, rfl, rfl⟩, List.forall_mem_cons.mpr ⟨⟨px_f260_220, _, _, rfl, rfl⟩, List.forall_mem_cons.mpr ⟨⟨px_f260_263, _, _, rfl, rfl⟩, List.forall_mem_cons.mpr ⟨⟨px_f260_319, _, _, rfl, rfl⟩, List.forall_mem_cons.mpr ⟨⟨px_f260_336, _, _, rfl, rfl⟩, List.forall_mem_cons.mpr ⟨⟨px_f260_399, _, _, rfl, rfl⟩, List.forall_mem_cons.mpr ⟨⟨px_f260_433, _, _, rfl, rfl⟩, List.forall_mem_cons.mpr ⟨⟨px_f260_476, _, _, rfl, rfl⟩, List.forall_mem_cons.mpr ⟨⟨px_f260_499, _, _, rfl, rfl⟩, List.forall_mem_cons.mpr ⟨⟨px_f260_532, _, _, rfl, rfl⟩, List.forall_mem_cons.mpr ⟨⟨px_f260_585, _, _, rfl, rfl⟩, List.forall_mem_cons.mpr ⟨⟨px_f260_618, _, _, rfl, rfl⟩, List.forall_mem_cons.mpr ⟨⟨px_f260_651, _, _, rfl, rfl⟩, List.forall_mem_cons.mpr ⟨⟨px_f260_684, _, _, rfl, rfl⟩, List.forall_mem_cons.mpr ⟨⟨px_f260_727, _, _, rfl, rfl⟩, List.forall_mem_cons.mpr ⟨⟨px_f260_760, _, _, rfl, rfl⟩, List.forall_mem_cons.mpr ⟨⟨px_f260_783, _, _, rfl, rfl⟩, List.forall_mem_cons.mpr ⟨⟨px_f260_796, _, _, rfl, rfl⟩, List.forall_mem_cons.mpr ⟨⟨px_f260_829, _, _, rfl, rfl⟩, List.forall_mem_cons.mpr ⟨⟨px_f260_862, _, _, rfl, rfl⟩, List.forall_mem_cons.mpr ⟨⟨px_f260_895, _, _, rfl, rfl⟩, List.forall_mem_cons.mpr ⟨⟨px_f260_913, _, _, rfl, rfl⟩, List.forall_mem_cons.mpr ⟨⟨px_f260_914, _, _, rfl, rfl⟩, List.forall_mem_cons.mpr ⟨⟨px_f260_935, _, _, rfl, rfl⟩, List.forall_mem_cons.mpr ⟨⟨px_f260_936, _, _, rfl, rfl⟩, List.forall_mem_cons.mpr ⟨⟨px_f260_944, _, _, rfl, rfl⟩, List.forall_mem_cons.mpr ⟨⟨px_f260_997, _, _, rfl, rfl⟩, List.forall_mem_cons.mpr ⟨⟨px_f260_1050, _, _, rfl, rfl⟩, List.forall_mem_cons.mpr ⟨⟨px_f260_1093, _, _, rfl, rfl⟩, List.forall_mem_cons.mpr ⟨⟨px_f260_1136, _, _, rfl, rfl⟩, List.forall_mem_cons.mpr ⟨⟨px_f260_1169, _, _, rfl, rfl⟩, List.forall_mem_cons.mpr ⟨⟨px_f260_1202, _, _, rfl, rfl⟩, List.forall_mem_cons.mpr ⟨⟨px_f260_1235, _, _, rfl, rfl⟩, List.forall_mem_cons.mpr ⟨⟨px_f260_1268, _, _, rfl, rfl⟩, List.forall_mem_cons.mpr ⟨⟨px_f260_1301, _, _, rfl, rfl⟩, List.forall_mem_cons.mpr ⟨⟨px_f260_1324, _, _, rfl, rfl⟩, List.forall_mem_cons.mpr ⟨⟨px_f260_1347, _, _, rfl, rfl⟩, List.forall_mem_cons.mpr ⟨⟨px_f260_1360, _, _, rfl, rfl⟩, List.forall_mem_cons.mpr ⟨⟨px_f260_1403, _, _, rfl, rfl⟩, List.forall_mem_cons.mpr ⟨⟨px_f260_1436, _, _, rfl, rfl⟩, List.forall_mem_cons.mpr ⟨⟨px_f260_1459, _, _, rfl, rfl⟩, List.forall_mem_cons.mpr ⟨⟨px_f260_1477, _, _, rfl, rfl⟩, List.forall_mem_cons.mpr ⟨⟨px_f260_1478, _, _, rfl, rfl⟩, List.forall_mem_cons.mpr ⟨⟨px_f260_1499, _, _, rfl, rfl⟩, List.forall_mem_cons.mpr ⟨⟨px_f260_1500, _, _, rfl, rfl⟩, List.forall_mem_cons.mpr ⟨⟨px_f260_1508, _, _, rfl, rfl⟩, List.forall_mem_cons.mpr ⟨⟨px_f260_1541, _, _, rfl, rfl⟩, List.forall_mem_cons.mpr ⟨⟨px_f260_1574, _, _, rfl, rfl⟩, List.forall_mem_cons.mpr ⟨⟨px_f260_1617, _, _, rfl, rfl⟩, List.forall_mem_cons.mpr ⟨⟨px_f260_1660, _, _, rfl, rfl⟩, List.forall_mem_cons.mpr ⟨⟨px_f260_1683, _, _, rfl, rfl⟩, List.forall_mem_cons.mpr ⟨⟨px_f260_1696, _, _, rfl, rfl⟩, List.forall_mem_cons.mpr ⟨⟨px_f260_1709, _, _, rfl, rfl⟩, List.forall_mem_cons.mpr ⟨⟨px_f260_1732, _, _, rfl, rfl⟩, List.forall_mem_cons.mpr ⟨⟨px_f260_1738, _, _, rfl, rfl⟩, (fun _ h => absurd h List.not_mem_nil)⟩⟩⟩⟩⟩⟩⟩⟩⟩⟩⟩⟩⟩⟩⟩⟩⟩⟩⟩⟩⟩⟩⟩⟩⟩⟩⟩⟩⟩⟩⟩⟩⟩⟩⟩⟩⟩⟩⟩⟩⟩⟩⟩⟩⟩⟩⟩⟩⟩⟩⟩⟩⟩⟩⟩⟩
theorem px_okL0 : ∀ k ∈ [0, 1, 2, 3, 4, 5, 6, 7, 8, 9, 10, 11, 12, 13, 14, 15, 16, 17, 18, 19], px_ok k := List.forall_mem_cons.mpr ⟨px_ok0, List.forall_mem_cons.mpr ⟨px_ok1, List.forall_mem_cons.mpr ⟨px_ok2, List.forall_mem_cons.mpr ⟨px_ok3, List.forall_mem_cons.mpr ⟨px_ok4, List.forall_mem_cons.mpr ⟨px_ok5, List.forall_mem_cons.mpr ⟨px_ok6, List.forall_mem_cons.mpr ⟨px_ok7, List.forall_mem_cons.mpr ⟨px_ok8, List.forall_mem_cons.mpr ⟨px_ok9, List.forall_mem_cons.mpr ⟨px_ok10, List.forall_mem_cons.mpr ⟨px_ok11, List.forall_mem_cons.mpr ⟨px_ok12, List.forall_mem_cons.mpr ⟨px_ok13, List.forall_mem_cons.mpr ⟨px_ok14, List.forall_mem_cons.mpr ⟨px_ok15, List.forall_mem_cons.mpr ⟨px_ok16, List.forall_mem_cons.mpr ⟨px_ok17, List.forall_mem_cons.mpr ⟨px_ok18, List.forall_mem_cons.mpr ⟨px_ok19, fun _ h => absurd h List.not_mem_nil⟩⟩⟩⟩⟩⟩⟩⟩⟩⟩⟩⟩⟩⟩⟩⟩⟩⟩⟩⟩
theorem px_okL20 : ∀ k ∈ [20, 21, 22, 23, 24, 25, 26, 27, 28, 29, 30, 31, 32, 33, 34, 35, 36, 37, 38, 39], px_ok k := List.forall_mem_cons.mpr ⟨px_ok20, List.forall_mem_cons.mpr ⟨px_ok21, List.forall_mem_cons.mpr ⟨px_ok22, List.forall_mem_cons.mpr ⟨px_ok23, List.forall_mem_cons.mpr ⟨px_ok24, List.forall_mem_cons.mpr ⟨px_ok25, List.forall_mem_cons.mpr ⟨px_ok26, List.forall_mem_cons.mpr ⟨px_ok27, List.forall_mem_cons.mpr ⟨px_ok28, List.forall_mem_cons.mpr ⟨px_ok29, List.forall_mem_cons.mpr ⟨px_ok30, List.forall_mem_cons.mpr ⟨px_ok31, List.forall_mem_cons.mpr ⟨px_ok32, List.forall_mem_cons.mpr ⟨px_ok33, List.forall_mem_cons.mpr ⟨px_ok34, List.forall_mem_cons.mpr ⟨px_ok35, List.forall_mem_cons.mpr ⟨px_ok36, List.forall_mem_cons.mpr ⟨px_ok37, List.forall_mem_cons.mpr ⟨px_ok38, List.forall_mem_cons.mpr ⟨px_ok39, fun _ h => absurd h List.not_mem_nil⟩⟩⟩⟩⟩⟩⟩⟩⟩⟩⟩⟩⟩⟩⟩⟩⟩⟩⟩⟩
theorem px_okL40 : ∀ k ∈ [40, 41, 42, 43, 44, 45, 46, 47, 48, 49, 50, 51, 52, 53, 54, 55, 56, 57, 58, 59], px_ok k := List.forall_mem_cons.mpr ⟨px_ok40, List.forall_mem_cons.mpr ⟨px_ok41, List.forall_mem_cons.mpr ⟨px_ok42, List.forall_mem_cons.mpr ⟨px_ok43, List.forall_mem_cons.mpr ⟨px_ok44, List.forall_mem_cons.mpr ⟨px_ok45, List.forall_mem_cons.mpr ⟨px_ok46, List.forall_mem_cons.mpr ⟨px_ok47, List.forall_mem_cons.mpr ⟨px_ok48, List.forall_mem_cons.mpr ⟨px_ok49, List.forall_mem_cons.mpr ⟨px_ok50, List.forall_mem_cons.mpr ⟨px_ok51, List.forall_mem_cons.mpr ⟨px_ok52, List.forall_mem_cons.mpr ⟨px_ok53, List.forall_mem_cons.mpr ⟨px_ok54, List.forall_mem_cons.mpr ⟨px_ok55, List.forall_mem_cons.mpr ⟨px_ok56, List.forall_mem_cons.mpr ⟨px_ok57, List.forall_mem_cons.mpr ⟨px_ok58, List.forall_mem_cons.mpr ⟨px_ok59, fun _ h => absurd h List.not_mem_nil⟩⟩⟩⟩⟩⟩⟩⟩⟩⟩⟩⟩⟩⟩⟩⟩⟩⟩⟩⟩
theorem px_okL60 : ∀ k ∈ [60, 61, 62, 63, 64, 65, 66, 67, 68, 69, 70, 71, 72, 73, 74, 75, 76, 77, 78, 79], px_ok k := List.forall_mem_cons.mpr ⟨px_ok60, List.forall_mem_cons.mpr ⟨px_ok61, List.forall_mem_cons.mpr ⟨px_ok62, List.forall_mem_cons.mpr ⟨px_ok63, List.forall_mem_cons.mpr ⟨px_ok64, List.forall_mem_cons.mpr ⟨px_ok65, List.forall_mem_cons.mpr ⟨px_ok66, List.forall_mem_cons.mpr ⟨px_ok67, List.forall_mem_cons.mpr ⟨px_ok68, List.forall_mem_cons.mpr ⟨px_ok69, List.forall_mem_cons.mpr ⟨px_ok70, List.forall_mem_cons.mpr ⟨px_ok71, List.forall_mem_cons.mpr ⟨px_ok72, List.forall_mem_cons.mpr ⟨px_ok73, List.forall_mem_cons.mpr ⟨px_ok74, List.forall_mem_cons.mpr ⟨px_ok75, List.forall_mem_cons.mpr ⟨px_ok76, List.forall_mem_cons.mpr ⟨px_ok77, List.forall_mem_cons.mpr ⟨px_ok78, List.forall_mem_cons.mpr ⟨px_ok79, fun _ h => absurd h List.not_mem_nil⟩⟩⟩⟩⟩⟩⟩⟩⟩⟩⟩⟩⟩⟩⟩⟩⟩⟩⟩⟩
theorem px_okL80 : ∀ k ∈ [80, 81, 82, 83, 84, 85, 86, 87, 88, 89, 90, 91, 92, 93, 94, 95, 96, 97, 98, 99], px_ok k := List.forall_mem_cons.mpr ⟨px_ok80, List.forall_mem_cons.mpr ⟨px_ok81, List.forall_mem_cons.mpr ⟨px_ok82, List.forall_mem_cons.mpr ⟨px_ok83, List.forall_mem_cons.mpr ⟨px_ok84, List.forall_mem_cons.mpr ⟨px_ok85, List.forall_mem_cons.mpr ⟨px_ok86, List.forall_mem_cons.mpr ⟨px_ok87, List.forall_mem_cons.mpr ⟨px_ok88, List.forall_mem_cons.mpr ⟨px_ok89, List.forall_mem_cons.mpr ⟨px_ok90, List.forall_mem_cons.mpr ⟨px_ok91, List.forall_mem_cons.mpr ⟨px_ok92, List.forall_mem_cons.mpr ⟨px_ok93, List.forall_mem_cons.mpr ⟨px_ok94, List.forall_mem_cons.mpr ⟨px_ok95, List.forall_mem_cons.mpr ⟨px_ok96, List.forall_mem_cons.mpr ⟨px_ok97, List.forall_mem_cons.mpr ⟨px_ok98, List.forall_mem_cons.mpr ⟨px_ok99, fun _ h => absurd h List.not_mem_nil⟩⟩⟩⟩⟩⟩⟩⟩⟩⟩⟩⟩⟩⟩⟩⟩⟩⟩⟩⟩
theorem px_okL100 : ∀ k ∈ [100, 101, 102, 103, 104, 105, 106, 107, 108, 109, 110, 111, 112, 113, 114, 115, 116, 117, 118, 119], px_ok k := List.forall_mem_cons.mpr ⟨px_ok100, List.forall_mem_cons.mpr ⟨px_ok101, List.forall_mem_cons.mpr ⟨px_ok102, List.forall_mem_cons.mpr ⟨px_ok103, List.forall_mem_cons.mpr ⟨px_ok104, List.forall_mem_cons.mpr ⟨px_ok105, List.forall_mem_cons.mpr ⟨px_ok106, List.forall_mem_cons.mpr ⟨px_ok107, List.forall_mem_cons.mpr ⟨px_ok108, List.forall_mem_cons.mpr ⟨px_ok109, List.forall_mem_cons.mpr ⟨px_ok110, List.forall_mem_cons.mpr ⟨px_ok111, List.forall_mem_cons.mpr ⟨px_ok112, List.forall_mem_cons.mpr ⟨px_ok113, List.forall_mem_cons.mpr ⟨px_ok114, List.forall_mem_cons.mpr ⟨px_ok115, List.forall_mem_cons.mpr ⟨px_ok116, List.forall_mem_cons.mpr ⟨px_ok117, List.forall_mem_cons.mpr ⟨px_ok118, List.forall_mem_cons.mpr ⟨px_ok119, fun _ h => absurd h List.not_mem_nil⟩⟩⟩⟩⟩⟩⟩⟩⟩⟩⟩⟩⟩⟩⟩⟩⟩⟩⟩⟩
theorem px_okL120 : ∀ k ∈ [120, 121, 122, 123, 124, 125, 126, 127, 128, 129, 130, 131, 132, 133, 134, 135, 136, 137, 138, 139], px_ok k := List.forall_mem_cons.mpr ⟨px_ok120, List.forall_mem_cons.mpr ⟨px_ok121, List.forall_mem_cons.mpr ⟨px_ok122, List.forall_mem_cons.mpr ⟨px_ok123, List.forall_mem_cons.mpr ⟨px_ok124, List.forall_mem_cons.mpr ⟨px_ok125, List.forall_mem_cons.mpr ⟨px_ok126, List.forall_mem_cons.mpr ⟨px_ok127, List.forall_mem_cons.mpr ⟨px_ok128, List.forall_mem_cons.mpr ⟨px_ok129, List.forall_mem_cons.mpr ⟨px_ok130, List.forall_mem_cons.mpr ⟨px_ok131, List.forall_mem_cons.mpr ⟨px_ok132, List.forall_mem_cons.mpr ⟨px_ok133, List.forall_mem_cons.mpr ⟨px_ok134, List.forall_mem_cons.mpr ⟨px_ok135, List.forall_mem_cons.mpr ⟨px_ok136, List.forall_mem_cons.mpr ⟨px_ok137, List.forall_mem_cons.mpr ⟨px_ok138, List.forall_mem_cons.mpr ⟨px_ok139, fun _ h => absurd h List.not_mem_nil⟩⟩⟩⟩⟩⟩⟩⟩⟩⟩⟩⟩⟩⟩⟩⟩⟩⟩⟩⟩
theorem px_okL140 : ∀ k ∈ [140, 141, 142, 143, 144, 145, 146, 147, 148, 149, 150, 151, 152, 153, 154, 155, 156, 157, 158, 159], px_ok k := List.forall_mem_cons.mpr ⟨px_ok140, List.forall_mem_cons.mpr ⟨px_ok141, List.forall_mem_cons.mpr ⟨px_ok142, List.forall_mem_cons.mpr ⟨px_ok143, List.forall_mem_cons.mpr ⟨px_ok144, List.forall_mem_cons.mpr ⟨px_ok145, List.forall_mem_cons.mpr ⟨px_ok146, List.forall_mem_cons.mpr ⟨px_ok147, List.forall_mem_cons.mpr ⟨px_ok148, List.forall_mem_cons.mpr ⟨px_ok149, List.forall_mem_cons.mpr ⟨px_ok150, List.forall_mem_cons.mpr ⟨px_ok151, List.forall_mem_cons.mpr ⟨px_ok152, List.forall_mem_cons.mpr ⟨px_ok153, List.forall_mem_cons.mpr ⟨px_ok154, List.forall_mem_cons.mpr ⟨px_ok155, List.forall_mem_cons.mpr ⟨px_ok156, List.forall_mem_cons.mpr ⟨px_ok157, List.forall_mem_cons.mpr ⟨px_ok158, List.forall_mem_cons.mpr ⟨px_ok159, fun _ h => absurd h List.not_mem_nil⟩⟩⟩⟩⟩⟩⟩⟩⟩⟩⟩⟩⟩⟩⟩⟩⟩⟩⟩⟩
theorem px_okL160 : ∀ k ∈ [160, 161, 162, 163, 164, 165, 166, 167, 168, 169, 170, 171, 172, 173, 174, 175, 176, 177, 178, 179], px_ok k := List.forall_mem_cons.mpr ⟨px_ok160, List.forall_mem_cons.mpr ⟨px_ok161, List.forall_mem_cons.mpr ⟨px_ok162, List.forall_mem_cons.mpr ⟨px_ok163, List.forall_mem_cons.mpr ⟨px_ok164, List.forall_mem_cons.mpr ⟨px_ok165, List.forall_mem_cons.mpr ⟨px_ok166, List.forall_mem_cons.mpr ⟨px_ok167, List.forall_mem_cons.mpr ⟨px_ok168, List.forall_mem_cons.mpr ⟨px_ok169, List.forall_mem_cons.mpr ⟨px_ok170, List.forall_mem_cons.mpr ⟨px_ok171, List.forall_mem_cons.mpr ⟨px_ok172, List.forall_mem_cons.mpr ⟨px_ok173, List.forall_mem_cons.mpr ⟨px_ok174, List.forall_mem_cons.mpr ⟨px_ok175, List.forall_mem_cons.mpr ⟨px_ok176, List.forall_mem_cons.mpr ⟨px_ok177, List.forall_mem_cons.mpr ⟨px_ok178, List.forall_mem_cons.mpr ⟨px_ok179, fun _ h => absurd h List.not_mem_nil⟩⟩⟩⟩⟩⟩⟩⟩⟩⟩⟩⟩⟩⟩⟩⟩⟩⟩⟩⟩
theorem px_okL180 : ∀ k ∈ [180, 181, 182, 183, 184, 185, 186, 187, 188, 189, 190, 191, 192, 193, 194, 195, 196, 197, 198, 199], px_ok k := List.forall_mem_cons.mpr ⟨px_ok180, List.forall_mem_cons.mpr ⟨px_ok181, List.forall_mem_cons.mpr ⟨px_ok182, List.forall_mem_cons.mpr ⟨px_ok183, List.forall_mem_cons.mpr ⟨px_ok184, List.forall_mem_cons.mpr ⟨px_ok185, List.forall_mem_cons.mpr ⟨px_ok186, List.forall_mem_cons.mpr ⟨px_ok187, List.forall_mem_cons.mpr ⟨px_ok188, List.forall_mem_cons.mpr ⟨px_ok189, List.forall_mem_cons.mpr ⟨px_ok190, List.forall_mem_cons.mpr ⟨px_ok191, List.forall_mem_cons.mpr ⟨px_ok192, List.forall_mem_cons.mpr ⟨px_ok193, List.forall_mem_cons.mpr ⟨px_ok194, List.forall_mem_cons.mpr ⟨px_ok195, List.forall_mem_cons.mpr ⟨px_ok196, List.forall_mem_cons.mpr ⟨px_ok197, List.forall_mem_cons.mpr ⟨px_ok198, List.forall_mem_cons.mpr ⟨px_ok199, fun _ h => absurd h List.not_mem_nil⟩⟩⟩⟩⟩⟩⟩⟩⟩⟩⟩⟩⟩⟩⟩⟩⟩⟩⟩⟩
theorem px_okL200 : ∀ k ∈ [200, 201, 202, 203, 204, 205, 206, 207, 208, 209, 210, 211, 212, 213, 214, 215, 216, 217, 218, 219], px_ok k := List.forall_mem_cons.mpr ⟨px_ok200, List.forall_mem_cons.mpr ⟨px_ok201, List.forall_mem_cons.mpr ⟨px_ok202, List.forall_mem_cons.mpr ⟨px_ok203, List.forall_mem_cons.mpr ⟨px_ok204, List.forall_mem_cons.mpr ⟨px_ok205, List.forall_mem_cons.mpr ⟨px_ok206, List.forall_mem_cons.mpr ⟨px_ok207, List.forall_mem_cons.mpr ⟨px_ok208, List.forall_mem_cons.mpr ⟨px_ok209, List.forall_mem_cons.mpr ⟨px_ok210, List.forall_mem_cons.mpr ⟨px_ok211, List.forall_mem_cons.mpr ⟨px_ok212, List.forall_mem_cons.mpr ⟨px_ok213, List.forall_mem_cons.mpr ⟨px_ok214, List.forall_mem_cons.mpr ⟨px_ok215, List.forall_mem_cons.mpr ⟨px_ok216, List.forall_mem_cons.mpr ⟨px_ok217, List.forall_mem_cons.mpr ⟨px_ok218, List.forall_mem_cons.mpr ⟨px_ok219, fun _ h => absurd h List.not_mem_nil⟩⟩⟩⟩⟩⟩⟩⟩⟩⟩⟩⟩⟩⟩⟩⟩⟩⟩⟩⟩
theorem px_okL220 : ∀ k ∈ [220, 221, 222, 223, 224, 225, 226, 227, 228, 229, 230, 231, 232, 233, 234, 235, 236, 237, 238, 239], px_ok k := List.forall_mem_cons.mpr ⟨px_ok220, List.forall_mem_cons.mpr ⟨px_ok221, List.forall_mem_cons.mpr ⟨px_ok222, List.forall_mem_cons.mpr ⟨px_ok223, List.forall_mem_cons.mpr ⟨px_ok224, List.forall_mem_cons.mpr ⟨px_ok225, List.forall_mem_cons.mpr ⟨px_ok226, List.forall_mem_cons.mpr ⟨px_ok227, List.forall_mem_cons.mpr ⟨px_ok228, List.forall_mem_cons.mpr ⟨px_ok229, List.forall_mem_cons.mpr ⟨px_ok230, List.forall_mem_cons.mpr ⟨px_ok231, List.forall_mem_cons.mpr ⟨px_ok232, List.forall_mem_cons.mpr ⟨px_ok233, List.forall_mem_cons.mpr ⟨px_ok234, List.forall_mem_cons.mpr ⟨px_ok235, List.forall_mem_cons.mpr ⟨px_ok236, List.forall_mem_cons.mpr ⟨px_ok237, List.forall_mem_cons.mpr ⟨px_ok238, List.forall_mem_cons.mpr ⟨px_ok239, fun _ h => absurd h List.not_mem_nil⟩⟩⟩⟩⟩⟩⟩⟩⟩⟩⟩⟩⟩⟩⟩⟩⟩⟩⟩⟩
theorem px_okL240 : ∀ k ∈ [240, 241, 242, 243, 244, 245, 246, 247, 248, 249, 250, 251, 252, 253, 254, 255, 256, 257, 258, 259], px_ok k := List.forall_mem_cons.mpr ⟨px_ok240, List.forall_mem_cons.mpr ⟨px_ok241, List.forall_mem_cons.mpr ⟨px_ok242, List.forall_mem_cons.mpr ⟨px_ok243, List.forall_mem_cons.mpr ⟨px_ok244, List.forall_mem_cons.mpr ⟨px_ok245, List.forall_mem_cons.mpr ⟨px_ok246, List.forall_mem_cons.mpr ⟨px_ok247, List.forall_mem_cons.mpr ⟨px_ok248, List.forall_mem_cons.mpr ⟨px_ok249, List.forall_mem_cons.mpr ⟨px_ok250, List.forall_mem_cons.mpr ⟨px_ok251, List.forall_mem_cons.mpr ⟨px_ok252, List.forall_mem_cons.mpr ⟨px_ok253, List.forall_mem_cons.mpr ⟨px_ok254, List.forall_mem_cons.mpr ⟨px_ok255, List.forall_mem_cons.mpr ⟨px_ok256, List.forall_mem_cons.mpr ⟨px_ok257, List.forall_mem_cons.mpr ⟨px_ok258, List.forall_mem_cons.mpr ⟨px_ok259, fun _ h => absurd h List.not_mem_nil⟩⟩⟩⟩⟩⟩⟩⟩⟩⟩⟩⟩⟩⟩⟩⟩⟩⟩⟩⟩
theorem px_okL260 : ∀ k ∈ [260], px_ok k := List.forall_mem_cons.mpr ⟨px_ok260, fun _ h => absurd h List.not_mem_nil⟩
theorem px_okA : ∀ k, k ≤ px_law → px_ok k := by
  intro k h
  have h' : k ≤ 260 := h
  rcases (show (0 ≤ k ∧ k < 20) ∨ (20 ≤ k ∧ k < 40) ∨ (40 ≤ k ∧ k < 60) ∨ (60 ≤ k ∧ k < 80) ∨ (80 ≤ k ∧ k < 100) ∨ (100 ≤ k ∧ k < 120) ∨ (120 ≤ k ∧ k < 140) ∨ (140 ≤ k ∧ k < 160) ∨ (160 ≤ k ∧ k < 180) ∨ (180 ≤ k ∧ k < 200) ∨ (200 ≤ k ∧ k < 220) ∨ (220 ≤ k ∧ k < 240) ∨ (240 ≤ k ∧ k < 260) ∨ (260 ≤ k ∧ k < 261) by omega) with h | h | h | h | h | h | h | h | h | h | h | h | h | h
  · exact px_okL0 k (by simp only [List.mem_cons, List.not_mem_nil, or_false]; omega)
  · exact px_okL20 k (by simp only [List.mem_cons, List.not_mem_nil, or_false]; omega)
  · exact px_okL40 k (by simp only [List.mem_cons, List.not_mem_nil, or_false]; omega)
  · exact px_okL60 k (by simp only [List.mem_cons, List.not_mem_nil, or_false]; omega)
  · exact px_okL80 k (by simp only [List.mem_cons, List.not_mem_nil, or_false]; omega)
  · exact px_okL100 k (by simp only [List.mem_cons, List.not_mem_nil, or_false]; omega)
  · exact px_okL120 k (by simp only [List.mem_cons, List.not_mem_nil, or_false]; omega)
  · exact px_okL140 k (by simp only [List.mem_cons, List.not_mem_nil, or_false]; omega)
  · exact px_okL160 k (by simp only [List.mem_cons, List.not_mem_nil, or_false]; omega)
  · exact px_okL180 k (by simp only [List.mem_cons, List.not_mem_nil, or_false]; omega)
  · exact px_okL200 k (by simp only [List.mem_cons, List.not_mem_nil, or_false]; omega)
  · exact px_okL220 k (by simp only [List.mem_cons, List.not_mem_nil, or_false]; omega)
  · exact px_okL240 k (by simp only [List.mem_cons, List.not_mem_nil, or_false]; omega)
  · exact px_okL260 k (by simp only [List.mem_cons, List.not_mem_nil, or_false]; omega)
