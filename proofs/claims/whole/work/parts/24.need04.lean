theorem kk177 : xK0.getD 177 [] = k177 := rfl
set_option maxRecDepth 100000 in
theorem ia177 : (k177.all fun e => decide (k177.lookup e.1 = some e.2)) = true := by decide +kernel
theorem i177_0 {xs : List Int32} : xtI (xTa xs) 177 0 = some (.aload_n 0, 1) := x_ins (j := 0) kk177 ia177 rfl
theorem i177_1 {xs : List Int32} : xtI (xTa xs) 177 1 = some (.iconst 0, 1) := x_ins (j := 1) kk177 ia177 rfl
theorem i177_2 {xs : List Int32} : xtI (xTa xs) 177 2 = some (.putfield 218, 3) := x_ins (j := 2) kk177 ia177 rfl
theorem i177_5 {xs : List Int32} : xtI (xTa xs) 177 5 = some (.aload_n 0, 1) := x_ins (j := 3) kk177 ia177 rfl
theorem i177_6 {xs : List Int32} : xtI (xTa xs) 177 6 = some (.getfield 47, 3) := x_ins (j := 4) kk177 ia177 rfl
theorem i177_9 {xs : List Int32} : xtI (xTa xs) 177 9 = some (.bipush 40, 2) := x_ins (j := 5) kk177 ia177 rfl
theorem i177_11 {xs : List Int32} : xtI (xTa xs) 177 11 = some (.iconst 0, 1) := x_ins (j := 6) kk177 ia177 rfl
theorem i177_12 {xs : List Int32} : xtI (xTa xs) 177 12 = some (.iastore, 1) := x_ins (j := 7) kk177 ia177 rfl
theorem i177_13 {xs : List Int32} : xtI (xTa xs) 177 13 = some (.aload_n 0, 1) := x_ins (j := 8) kk177 ia177 rfl
theorem i177_14 {xs : List Int32} : xtI (xTa xs) 177 14 = some (.getfield 50, 3) := x_ins (j := 9) kk177 ia177 rfl
theorem i177_17 {xs : List Int32} : xtI (xTa xs) 177 17 = some (.bipush 40, 2) := x_ins (j := 10) kk177 ia177 rfl
theorem i177_19 {xs : List Int32} : xtI (xTa xs) 177 19 = some (.iconst 0, 1) := x_ins (j := 11) kk177 ia177 rfl
theorem i177_20 {xs : List Int32} : xtI (xTa xs) 177 20 = some (.iastore, 1) := x_ins (j := 12) kk177 ia177 rfl
theorem i177_21 {xs : List Int32} : xtI (xTa xs) 177 21 = some (.aload_n 0, 1) := x_ins (j := 13) kk177 ia177 rfl
theorem i177_22 {xs : List Int32} : xtI (xTa xs) 177 22 = some (.iconst 0, 1) := x_ins (j := 14) kk177 ia177 rfl
theorem i177_23 {xs : List Int32} : xtI (xTa xs) 177 23 = some (.putfield 278, 3) := x_ins (j := 15) kk177 ia177 rfl
theorem i177_26 {xs : List Int32} : xtI (xTa xs) 177 26 = some (.aload_n 0, 1) := x_ins (j := 16) kk177 ia177 rfl
theorem i177_27 {xs : List Int32} : xtI (xTa xs) 177 27 = some (.iconst 1, 1) := x_ins (j := 17) kk177 ia177 rfl
theorem i177_28 {xs : List Int32} : xtI (xTa xs) 177 28 = some (.putfield 282, 3) := x_ins (j := 18) kk177 ia177 rfl
theorem i177_31 {xs : List Int32} : xtI (xTa xs) 177 31 = some (.iconst 0, 1) := x_ins (j := 19) kk177 ia177 rfl
theorem i177_32 {xs : List Int32} : xtI (xTa xs) 177 32 = some (.istore_n 2, 1) := x_ins (j := 20) kk177 ia177 rfl
theorem i177_33 {xs : List Int32} : xtI (xTa xs) 177 33 = some (.iload_n 2, 1) := x_ins (j := 21) kk177 ia177 rfl
theorem i177_34 {xs : List Int32} : xtI (xTa xs) 177 34 = some (.iload_n 1, 1) := x_ins (j := 22) kk177 ia177 rfl
theorem i177_35 {xs : List Int32} : xtI (xTa xs) 177 35 = some (.if_icmp .ge 47, 3) := x_ins (j := 23) kk177 ia177 rfl
theorem i177_38 {xs : List Int32} : xtI (xTa xs) 177 38 = some (.aload_n 0, 1) := x_ins (j := 24) kk177 ia177 rfl
theorem i177_39 {xs : List Int32} : xtI (xTa xs) 177 39 = some (.getfield 218, 3) := x_ins (j := 25) kk177 ia177 rfl
theorem i177_42 {xs : List Int32} : xtI (xTa xs) 177 42 = some (.ifCond .ne 40, 3) := x_ins (j := 26) kk177 ia177 rfl
theorem i177_45 {xs : List Int32} : xtI (xTa xs) 177 45 = some (.aload_n 0, 1) := x_ins (j := 27) kk177 ia177 rfl
theorem i177_46 {xs : List Int32} : xtI (xTa xs) 177 46 = some (.iload_n 2, 1) := x_ins (j := 28) kk177 ia177 rfl
theorem i177_47 {xs : List Int32} : xtI (xTa xs) 177 47 = some (.invokevirtual 227, 3) := x_ins (j := 29) kk177 ia177 rfl
theorem i177_50 {xs : List Int32} : xtI (xTa xs) 177 50 = some (.bipush 10, 2) := x_ins (j := 30) kk177 ia177 rfl
theorem i177_52 {xs : List Int32} : xtI (xTa xs) 177 52 = some (.if_icmp .eq 24, 3) := x_ins (j := 31) kk177 ia177 rfl
theorem i177_55 {xs : List Int32} : xtI (xTa xs) 177 55 = some (.aload_n 0, 1) := x_ins (j := 32) kk177 ia177 rfl
theorem i177_56 {xs : List Int32} : xtI (xTa xs) 177 56 = some (.iload_n 2, 1) := x_ins (j := 33) kk177 ia177 rfl
theorem i177_57 {xs : List Int32} : xtI (xTa xs) 177 57 = some (.invokevirtual 227, 3) := x_ins (j := 34) kk177 ia177 rfl
theorem i177_60 {xs : List Int32} : xtI (xTa xs) 177 60 = some (.bipush 32, 2) := x_ins (j := 35) kk177 ia177 rfl
theorem i177_62 {xs : List Int32} : xtI (xTa xs) 177 62 = some (.bipush 126, 2) := x_ins (j := 36) kk177 ia177 rfl
theorem i177_64 {xs : List Int32} : xtI (xTa xs) 177 64 = some (.invokestatic 154, 3) := x_ins (j := 37) kk177 ia177 rfl
theorem i177_67 {xs : List Int32} : xtI (xTa xs) 177 67 = some (.ifCond .ne 9, 3) := x_ins (j := 38) kk177 ia177 rfl
theorem i177_70 {xs : List Int32} : xtI (xTa xs) 177 70 = some (.aload_n 0, 1) := x_ins (j := 39) kk177 ia177 rfl
theorem i177_71 {xs : List Int32} : xtI (xTa xs) 177 71 = some (.iconst 1, 1) := x_ins (j := 40) kk177 ia177 rfl
theorem i177_72 {xs : List Int32} : xtI (xTa xs) 177 72 = some (.iload_n 2, 1) := x_ins (j := 41) kk177 ia177 rfl
theorem i177_73 {xs : List Int32} : xtI (xTa xs) 177 73 = some (.invokevirtual 267, 3) := x_ins (j := 42) kk177 ia177 rfl
theorem i177_76 {xs : List Int32} : xtI (xTa xs) 177 76 = some (.iinc 2 1, 3) := x_ins (j := 43) kk177 ia177 rfl
theorem i177_79 {xs : List Int32} : xtI (xTa xs) 177 79 = some (.goto (-46), 3) := x_ins (j := 44) kk177 ia177 rfl
theorem i177_82 {xs : List Int32} : xtI (xTa xs) 177 82 = some (.iconst 0, 1) := x_ins (j := 45) kk177 ia177 rfl
theorem i177_83 {xs : List Int32} : xtI (xTa xs) 177 83 = some (.istore_n 2, 1) := x_ins (j := 46) kk177 ia177 rfl
theorem i177_84 {xs : List Int32} : xtI (xTa xs) 177 84 = some (.iload_n 2, 1) := x_ins (j := 47) kk177 ia177 rfl
theorem i177_85 {xs : List Int32} : xtI (xTa xs) 177 85 = some (.iload_n 1, 1) := x_ins (j := 48) kk177 ia177 rfl
theorem i177_86 {xs : List Int32} : xtI (xTa xs) 177 86 = some (.if_icmp .ge 112, 3) := x_ins (j := 49) kk177 ia177 rfl
theorem i177_89 {xs : List Int32} : xtI (xTa xs) 177 89 = some (.aload_n 0, 1) := x_ins (j := 50) kk177 ia177 rfl
theorem i177_90 {xs : List Int32} : xtI (xTa xs) 177 90 = some (.getfield 218, 3) := x_ins (j := 51) kk177 ia177 rfl
theorem i177_93 {xs : List Int32} : xtI (xTa xs) 177 93 = some (.ifCond .ne 105, 3) := x_ins (j := 52) kk177 ia177 rfl
theorem i177_96 {xs : List Int32} : xtI (xTa xs) 177 96 = some (.aload_n 0, 1) := x_ins (j := 53) kk177 ia177 rfl
theorem i177_97 {xs : List Int32} : xtI (xTa xs) 177 97 = some (.aload_n 0, 1) := x_ins (j := 54) kk177 ia177 rfl
theorem i177_98 {xs : List Int32} : xtI (xTa xs) 177 98 = some (.iload_n 2, 1) := x_ins (j := 55) kk177 ia177 rfl
theorem i177_99 {xs : List Int32} : xtI (xTa xs) 177 99 = some (.iload_n 1, 1) := x_ins (j := 56) kk177 ia177 rfl
theorem i177_100 {xs : List Int32} : xtI (xTa xs) 177 100 = some (.invokevirtual 285, 3) := x_ins (j := 57) kk177 ia177 rfl
theorem i177_103 {xs : List Int32} : xtI (xTa xs) 177 103 = some (.putfield 224, 3) := x_ins (j := 58) kk177 ia177 rfl
theorem i177_106 {xs : List Int32} : xtI (xTa xs) 177 106 = some (.aload_n 0, 1) := x_ins (j := 59) kk177 ia177 rfl
theorem i177_107 {xs : List Int32} : xtI (xTa xs) 177 107 = some (.iload_n 2, 1) := x_ins (j := 60) kk177 ia177 rfl
theorem i177_108 {xs : List Int32} : xtI (xTa xs) 177 108 = some (.invokevirtual 255, 3) := x_ins (j := 61) kk177 ia177 rfl
theorem i177_111 {xs : List Int32} : xtI (xTa xs) 177 111 = some (.istore_n 3, 1) := x_ins (j := 62) kk177 ia177 rfl
theorem i177_112 {xs : List Int32} : xtI (xTa xs) 177 112 = some (.iload_n 3, 1) := x_ins (j := 63) kk177 ia177 rfl
theorem i177_113 {xs : List Int32} : xtI (xTa xs) 177 113 = some (.aload_n 0, 1) := x_ins (j := 64) kk177 ia177 rfl
theorem i177_114 {xs : List Int32} : xtI (xTa xs) 177 114 = some (.getfield 224, 3) := x_ins (j := 65) kk177 ia177 rfl
theorem i177_117 {xs : List Int32} : xtI (xTa xs) 177 117 = some (.if_icmp .ne 11, 3) := x_ins (j := 66) kk177 ia177 rfl
theorem i177_120 {xs : List Int32} : xtI (xTa xs) 177 120 = some (.aload_n 0, 1) := x_ins (j := 67) kk177 ia177 rfl
theorem i177_121 {xs : List Int32} : xtI (xTa xs) 177 121 = some (.iconst 1, 1) := x_ins (j := 68) kk177 ia177 rfl
theorem i177_122 {xs : List Int32} : xtI (xTa xs) 177 122 = some (.putfield 282, 3) := x_ins (j := 69) kk177 ia177 rfl
theorem i177_125 {xs : List Int32} : xtI (xTa xs) 177 125 = some (.goto 46, 3) := x_ins (j := 70) kk177 ia177 rfl
theorem i177_128 {xs : List Int32} : xtI (xTa xs) 177 128 = some (.aload_n 0, 1) := x_ins (j := 71) kk177 ia177 rfl
theorem i177_129 {xs : List Int32} : xtI (xTa xs) 177 129 = some (.iload_n 3, 1) := x_ins (j := 72) kk177 ia177 rfl
theorem i177_130 {xs : List Int32} : xtI (xTa xs) 177 130 = some (.invokevirtual 227, 3) := x_ins (j := 73) kk177 ia177 rfl
theorem i177_133 {xs : List Int32} : xtI (xTa xs) 177 133 = some (.bipush 64, 2) := x_ins (j := 74) kk177 ia177 rfl
theorem i177_135 {xs : List Int32} : xtI (xTa xs) 177 135 = some (.if_icmp .ne 11, 3) := x_ins (j := 75) kk177 ia177 rfl
theorem i177_138 {xs : List Int32} : xtI (xTa xs) 177 138 = some (.aload_n 0, 1) := x_ins (j := 76) kk177 ia177 rfl
theorem i177_139 {xs : List Int32} : xtI (xTa xs) 177 139 = some (.iload_n 3, 1) := x_ins (j := 77) kk177 ia177 rfl
theorem i177_140 {xs : List Int32} : xtI (xTa xs) 177 140 = some (.invokevirtual 289, 3) := x_ins (j := 78) kk177 ia177 rfl
theorem i177_143 {xs : List Int32} : xtI (xTa xs) 177 143 = some (.goto 28, 3) := x_ins (j := 79) kk177 ia177 rfl
theorem i177_146 {xs : List Int32} : xtI (xTa xs) 177 146 = some (.aload_n 0, 1) := x_ins (j := 80) kk177 ia177 rfl
theorem i177_147 {xs : List Int32} : xtI (xTa xs) 177 147 = some (.iload_n 3, 1) := x_ins (j := 81) kk177 ia177 rfl
theorem i177_148 {xs : List Int32} : xtI (xTa xs) 177 148 = some (.invokevirtual 292, 3) := x_ins (j := 82) kk177 ia177 rfl
theorem i177_151 {xs : List Int32} : xtI (xTa xs) 177 151 = some (.ifCond .eq 14, 3) := x_ins (j := 83) kk177 ia177 rfl
theorem i177_154 {xs : List Int32} : xtI (xTa xs) 177 154 = some (.aload_n 0, 1) := x_ins (j := 84) kk177 ia177 rfl
theorem i177_155 {xs : List Int32} : xtI (xTa xs) 177 155 = some (.iload_n 3, 1) := x_ins (j := 85) kk177 ia177 rfl
theorem i177_156 {xs : List Int32} : xtI (xTa xs) 177 156 = some (.iload_n 3, 1) := x_ins (j := 86) kk177 ia177 rfl
theorem i177_157 {xs : List Int32} : xtI (xTa xs) 177 157 = some (.iload_n 2, 1) := x_ins (j := 87) kk177 ia177 rfl
theorem i177_158 {xs : List Int32} : xtI (xTa xs) 177 158 = some (.isub, 1) := x_ins (j := 88) kk177 ia177 rfl
theorem i177_159 {xs : List Int32} : xtI (xTa xs) 177 159 = some (.invokevirtual 295, 3) := x_ins (j := 89) kk177 ia177 rfl
theorem i177_162 {xs : List Int32} : xtI (xTa xs) 177 162 = some (.goto 9, 3) := x_ins (j := 90) kk177 ia177 rfl
theorem i177_165 {xs : List Int32} : xtI (xTa xs) 177 165 = some (.aload_n 0, 1) := x_ins (j := 91) kk177 ia177 rfl
theorem i177_166 {xs : List Int32} : xtI (xTa xs) 177 166 = some (.iload_n 3, 1) := x_ins (j := 92) kk177 ia177 rfl
theorem i177_167 {xs : List Int32} : xtI (xTa xs) 177 167 = some (.iload_n 1, 1) := x_ins (j := 93) kk177 ia177 rfl
theorem i177_168 {xs : List Int32} : xtI (xTa xs) 177 168 = some (.invokevirtual 298, 3) := x_ins (j := 94) kk177 ia177 rfl
theorem i177_171 {xs : List Int32} : xtI (xTa xs) 177 171 = some (.aload_n 0, 1) := x_ins (j := 95) kk177 ia177 rfl
theorem i177_172 {xs : List Int32} : xtI (xTa xs) 177 172 = some (.iload_n 3, 1) := x_ins (j := 96) kk177 ia177 rfl
theorem i177_173 {xs : List Int32} : xtI (xTa xs) 177 173 = some (.aload_n 0, 1) := x_ins (j := 97) kk177 ia177 rfl
theorem i177_174 {xs : List Int32} : xtI (xTa xs) 177 174 = some (.getfield 224, 3) := x_ins (j := 98) kk177 ia177 rfl
theorem i177_177 {xs : List Int32} : xtI (xTa xs) 177 177 = some (.if_icmp .ne 7, 3) := x_ins (j := 99) kk177 ia177 rfl
theorem i177_180 {xs : List Int32} : xtI (xTa xs) 177 180 = some (.iconst 1, 1) := x_ins (j := 100) kk177 ia177 rfl
theorem i177_181 {xs : List Int32} : xtI (xTa xs) 177 181 = some (.goto 4, 3) := x_ins (j := 101) kk177 ia177 rfl
theorem i177_184 {xs : List Int32} : xtI (xTa xs) 177 184 = some (.iconst 0, 1) := x_ins (j := 102) kk177 ia177 rfl
theorem i177_185 {xs : List Int32} : xtI (xTa xs) 177 185 = some (.putfield 282, 3) := x_ins (j := 103) kk177 ia177 rfl
theorem i177_188 {xs : List Int32} : xtI (xTa xs) 177 188 = some (.aload_n 0, 1) := x_ins (j := 104) kk177 ia177 rfl
theorem i177_189 {xs : List Int32} : xtI (xTa xs) 177 189 = some (.getfield 224, 3) := x_ins (j := 105) kk177 ia177 rfl
theorem i177_192 {xs : List Int32} : xtI (xTa xs) 177 192 = some (.iconst 1, 1) := x_ins (j := 106) kk177 ia177 rfl
theorem i177_193 {xs : List Int32} : xtI (xTa xs) 177 193 = some (.iadd, 1) := x_ins (j := 107) kk177 ia177 rfl
theorem i177_194 {xs : List Int32} : xtI (xTa xs) 177 194 = some (.istore_n 2, 1) := x_ins (j := 108) kk177 ia177 rfl
theorem i177_195 {xs : List Int32} : xtI (xTa xs) 177 195 = some (.goto (-111), 3) := x_ins (j := 109) kk177 ia177 rfl
theorem i177_198 {xs : List Int32} : xtI (xTa xs) 177 198 = some (.return_, 1) := x_ins (j := 110) kk177 ia177 rfl
theorem kk178 : xK0.getD 178 [] = k178 := rfl
set_option maxRecDepth 100000 in
theorem ia178 : (k178.all fun e => decide (k178.lookup e.1 = some e.2)) = true := by decide +kernel
theorem i178_0 {xs : List Int32} : xtI (xTa xs) 178 0 = some (.iload_n 1, 1) := x_ins (j := 0) kk178 ia178 rfl
theorem i178_1 {xs : List Int32} : xtI (xTa xs) 178 1 = some (.istore_n 3, 1) := x_ins (j := 1) kk178 ia178 rfl
theorem i178_2 {xs : List Int32} : xtI (xTa xs) 178 2 = some (.iload_n 3, 1) := x_ins (j := 2) kk178 ia178 rfl
theorem i178_3 {xs : List Int32} : xtI (xTa xs) 178 3 = some (.iload_n 2, 1) := x_ins (j := 3) kk178 ia178 rfl
theorem i178_4 {xs : List Int32} : xtI (xTa xs) 178 4 = some (.if_icmp .ge 19, 3) := x_ins (j := 4) kk178 ia178 rfl
theorem i178_7 {xs : List Int32} : xtI (xTa xs) 178 7 = some (.aload_n 0, 1) := x_ins (j := 5) kk178 ia178 rfl
theorem i178_8 {xs : List Int32} : xtI (xTa xs) 178 8 = some (.iload_n 3, 1) := x_ins (j := 6) kk178 ia178 rfl
theorem i178_9 {xs : List Int32} : xtI (xTa xs) 178 9 = some (.invokevirtual 227, 3) := x_ins (j := 7) kk178 ia178 rfl
theorem i178_12 {xs : List Int32} : xtI (xTa xs) 178 12 = some (.bipush 10, 2) := x_ins (j := 8) kk178 ia178 rfl
theorem i178_14 {xs : List Int32} : xtI (xTa xs) 178 14 = some (.if_icmp .eq 9, 3) := x_ins (j := 9) kk178 ia178 rfl
theorem i178_17 {xs : List Int32} : xtI (xTa xs) 178 17 = some (.iinc 3 1, 3) := x_ins (j := 10) kk178 ia178 rfl
theorem i178_20 {xs : List Int32} : xtI (xTa xs) 178 20 = some (.goto (-18), 3) := x_ins (j := 11) kk178 ia178 rfl
theorem i178_23 {xs : List Int32} : xtI (xTa xs) 178 23 = some (.iload_n 3, 1) := x_ins (j := 12) kk178 ia178 rfl
theorem i178_24 {xs : List Int32} : xtI (xTa xs) 178 24 = some (.ireturn, 1) := x_ins (j := 13) kk178 ia178 rfl
theorem kk179 : xK0.getD 179 [] = k179 := rfl
set_option maxRecDepth 100000 in
theorem ia179 : (k179.all fun e => decide (k179.lookup e.1 = some e.2)) = true := by decide +kernel
theorem i179_0 {xs : List Int32} : xtI (xTa xs) 179 0 = some (.aload_n 0, 1) := x_ins (j := 0) kk179 ia179 rfl
theorem i179_1 {xs : List Int32} : xtI (xTa xs) 179 1 = some (.iload_n 1, 1) := x_ins (j := 1) kk179 ia179 rfl
theorem i179_2 {xs : List Int32} : xtI (xTa xs) 179 2 = some (.invokevirtual 227, 3) := x_ins (j := 2) kk179 ia179 rfl
theorem i179_5 {xs : List Int32} : xtI (xTa xs) 179 5 = some (.bipush 45, 2) := x_ins (j := 3) kk179 ia179 rfl
theorem i179_7 {xs : List Int32} : xtI (xTa xs) 179 7 = some (.if_icmp .ne 29, 3) := x_ins (j := 4) kk179 ia179 rfl
theorem i179_10 {xs : List Int32} : xtI (xTa xs) 179 10 = some (.iload_n 1, 1) := x_ins (j := 5) kk179 ia179 rfl
theorem i179_11 {xs : List Int32} : xtI (xTa xs) 179 11 = some (.iconst 1, 1) := x_ins (j := 6) kk179 ia179 rfl
theorem i179_12 {xs : List Int32} : xtI (xTa xs) 179 12 = some (.iadd, 1) := x_ins (j := 7) kk179 ia179 rfl
theorem i179_13 {xs : List Int32} : xtI (xTa xs) 179 13 = some (.aload_n 0, 1) := x_ins (j := 8) kk179 ia179 rfl
theorem i179_14 {xs : List Int32} : xtI (xTa xs) 179 14 = some (.getfield 224, 3) := x_ins (j := 9) kk179 ia179 rfl
theorem i179_17 {xs : List Int32} : xtI (xTa xs) 179 17 = some (.if_icmp .eq 15, 3) := x_ins (j := 10) kk179 ia179 rfl
theorem i179_20 {xs : List Int32} : xtI (xTa xs) 179 20 = some (.aload_n 0, 1) := x_ins (j := 11) kk179 ia179 rfl
theorem i179_21 {xs : List Int32} : xtI (xTa xs) 179 21 = some (.iload_n 1, 1) := x_ins (j := 12) kk179 ia179 rfl
theorem i179_22 {xs : List Int32} : xtI (xTa xs) 179 22 = some (.iconst 1, 1) := x_ins (j := 13) kk179 ia179 rfl
theorem i179_23 {xs : List Int32} : xtI (xTa xs) 179 23 = some (.iadd, 1) := x_ins (j := 14) kk179 ia179 rfl
theorem i179_24 {xs : List Int32} : xtI (xTa xs) 179 24 = some (.invokevirtual 227, 3) := x_ins (j := 15) kk179 ia179 rfl
theorem i179_27 {xs : List Int32} : xtI (xTa xs) 179 27 = some (.bipush 32, 2) := x_ins (j := 16) kk179 ia179 rfl
theorem i179_29 {xs : List Int32} : xtI (xTa xs) 179 29 = some (.if_icmp .ne 7, 3) := x_ins (j := 17) kk179 ia179 rfl
theorem i179_32 {xs : List Int32} : xtI (xTa xs) 179 32 = some (.iconst 1, 1) := x_ins (j := 18) kk179 ia179 rfl
theorem i179_33 {xs : List Int32} : xtI (xTa xs) 179 33 = some (.goto 4, 3) := x_ins (j := 19) kk179 ia179 rfl
theorem i179_36 {xs : List Int32} : xtI (xTa xs) 179 36 = some (.iconst 0, 1) := x_ins (j := 20) kk179 ia179 rfl
theorem i179_37 {xs : List Int32} : xtI (xTa xs) 179 37 = some (.ireturn, 1) := x_ins (j := 21) kk179 ia179 rfl
theorem kk180 : xK0.getD 180 [] = k180 := rfl
set_option maxRecDepth 100000 in
theorem ia180 : (k180.all fun e => decide (k180.lookup e.1 = some e.2)) = true := by decide +kernel
theorem i180_0 {xs : List Int32} : xtI (xTa xs) 180 0 = some (.aload_n 0, 1) := x_ins (j := 0) kk180 ia180 rfl
theorem i180_1 {xs : List Int32} : xtI (xTa xs) 180 1 = some (.getfield 47, 3) := x_ins (j := 1) kk180 ia180 rfl
theorem i180_4 {xs : List Int32} : xtI (xTa xs) 180 4 = some (.bipush 40, 2) := x_ins (j := 2) kk180 ia180 rfl
theorem i180_6 {xs : List Int32} : xtI (xTa xs) 180 6 = some (.iaload, 1) := x_ins (j := 3) kk180 ia180 rfl
theorem i180_7 {xs : List Int32} : xtI (xTa xs) 180 7 = some (.ifCond .le 27, 3) := x_ins (j := 4) kk180 ia180 rfl
theorem i180_10 {xs : List Int32} : xtI (xTa xs) 180 10 = some (.aload_n 0, 1) := x_ins (j := 5) kk180 ia180 rfl
theorem i180_11 {xs : List Int32} : xtI (xTa xs) 180 11 = some (.getfield 282, 3) := x_ins (j := 6) kk180 ia180 rfl
theorem i180_14 {xs : List Int32} : xtI (xTa xs) 180 14 = some (.ifCond .ne 20, 3) := x_ins (j := 7) kk180 ia180 rfl
theorem i180_17 {xs : List Int32} : xtI (xTa xs) 180 17 = some (.aload_n 0, 1) := x_ins (j := 8) kk180 ia180 rfl
theorem i180_18 {xs : List Int32} : xtI (xTa xs) 180 18 = some (.getfield 53, 3) := x_ins (j := 9) kk180 ia180 rfl
theorem i180_21 {xs : List Int32} : xtI (xTa xs) 180 21 = some (.aload_n 0, 1) := x_ins (j := 10) kk180 ia180 rfl
theorem i180_22 {xs : List Int32} : xtI (xTa xs) 180 22 = some (.invokevirtual 274, 3) := x_ins (j := 11) kk180 ia180 rfl
theorem i180_25 {xs : List Int32} : xtI (xTa xs) 180 25 = some (.iaload, 1) := x_ins (j := 12) kk180 ia180 rfl
theorem i180_26 {xs : List Int32} : xtI (xTa xs) 180 26 = some (.iconst 1, 1) := x_ins (j := 13) kk180 ia180 rfl
theorem i180_27 {xs : List Int32} : xtI (xTa xs) 180 27 = some (.if_icmp .ne 7, 3) := x_ins (j := 14) kk180 ia180 rfl
theorem i180_30 {xs : List Int32} : xtI (xTa xs) 180 30 = some (.iconst 1, 1) := x_ins (j := 15) kk180 ia180 rfl
theorem i180_31 {xs : List Int32} : xtI (xTa xs) 180 31 = some (.goto 4, 3) := x_ins (j := 16) kk180 ia180 rfl
theorem i180_34 {xs : List Int32} : xtI (xTa xs) 180 34 = some (.iconst 0, 1) := x_ins (j := 17) kk180 ia180 rfl
theorem i180_35 {xs : List Int32} : xtI (xTa xs) 180 35 = some (.istore_n 3, 1) := x_ins (j := 18) kk180 ia180 rfl
theorem i180_36 {xs : List Int32} : xtI (xTa xs) 180 36 = some (.iload_n 3, 1) := x_ins (j := 19) kk180 ia180 rfl
theorem i180_37 {xs : List Int32} : xtI (xTa xs) 180 37 = some (.ifCond .eq 17, 3) := x_ins (j := 20) kk180 ia180 rfl
theorem i180_40 {xs : List Int32} : xtI (xTa xs) 180 40 = some (.aload_n 0, 1) := x_ins (j := 21) kk180 ia180 rfl
theorem i180_41 {xs : List Int32} : xtI (xTa xs) 180 41 = some (.getfield 56, 3) := x_ins (j := 22) kk180 ia180 rfl
theorem i180_44 {xs : List Int32} : xtI (xTa xs) 180 44 = some (.aload_n 0, 1) := x_ins (j := 23) kk180 ia180 rfl
theorem i180_45 {xs : List Int32} : xtI (xTa xs) 180 45 = some (.invokevirtual 274, 3) := x_ins (j := 24) kk180 ia180 rfl
theorem i180_48 {xs : List Int32} : xtI (xTa xs) 180 48 = some (.iaload, 1) := x_ins (j := 25) kk180 ia180 rfl
theorem i180_49 {xs : List Int32} : xtI (xTa xs) 180 49 = some (.iconst 1, 1) := x_ins (j := 26) kk180 ia180 rfl
theorem i180_50 {xs : List Int32} : xtI (xTa xs) 180 50 = some (.iadd, 1) := x_ins (j := 27) kk180 ia180 rfl
theorem i180_51 {xs : List Int32} : xtI (xTa xs) 180 51 = some (.goto 4, 3) := x_ins (j := 28) kk180 ia180 rfl
theorem i180_54 {xs : List Int32} : xtI (xTa xs) 180 54 = some (.iconst 0, 1) := x_ins (j := 29) kk180 ia180 rfl
theorem i180_55 {xs : List Int32} : xtI (xTa xs) 180 55 = some (.istore 4, 2) := x_ins (j := 30) kk180 ia180 rfl
theorem i180_57 {xs : List Int32} : xtI (xTa xs) 180 57 = some (.iload_n 2, 1) := x_ins (j := 31) kk180 ia180 rfl
theorem i180_58 {xs : List Int32} : xtI (xTa xs) 180 58 = some (.iconst 2, 1) := x_ins (j := 32) kk180 ia180 rfl
theorem i180_59 {xs : List Int32} : xtI (xTa xs) 180 59 = some (.idiv, 1) := x_ins (j := 33) kk180 ia180 rfl
theorem i180_60 {xs : List Int32} : xtI (xTa xs) 180 60 = some (.istore 5, 2) := x_ins (j := 34) kk180 ia180 rfl
theorem i180_62 {xs : List Int32} : xtI (xTa xs) 180 62 = some (.aload_n 0, 1) := x_ins (j := 35) kk180 ia180 rfl
theorem i180_63 {xs : List Int32} : xtI (xTa xs) 180 63 = some (.getfield 278, 3) := x_ins (j := 36) kk180 ia180 rfl
theorem i180_66 {xs : List Int32} : xtI (xTa xs) 180 66 = some (.ifCond .eq 12, 3) := x_ins (j := 37) kk180 ia180 rfl
theorem i180_69 {xs : List Int32} : xtI (xTa xs) 180 69 = some (.aload_n 0, 1) := x_ins (j := 38) kk180 ia180 rfl
theorem i180_70 {xs : List Int32} : xtI (xTa xs) 180 70 = some (.iconst 2, 1) := x_ins (j := 39) kk180 ia180 rfl
theorem i180_71 {xs : List Int32} : xtI (xTa xs) 180 71 = some (.iload_n 1, 1) := x_ins (j := 40) kk180 ia180 rfl
theorem i180_72 {xs : List Int32} : xtI (xTa xs) 180 72 = some (.invokevirtual 267, 3) := x_ins (j := 41) kk180 ia180 rfl
theorem i180_75 {xs : List Int32} : xtI (xTa xs) 180 75 = some (.goto 78, 3) := x_ins (j := 42) kk180 ia180 rfl
theorem i180_78 {xs : List Int32} : xtI (xTa xs) 180 78 = some (.iload_n 2, 1) := x_ins (j := 43) kk180 ia180 rfl
theorem i180_79 {xs : List Int32} : xtI (xTa xs) 180 79 = some (.iconst 2, 1) := x_ins (j := 44) kk180 ia180 rfl
theorem i180_80 {xs : List Int32} : xtI (xTa xs) 180 80 = some (.irem, 1) := x_ins (j := 45) kk180 ia180 rfl
theorem i180_81 {xs : List Int32} : xtI (xTa xs) 180 81 = some (.iconst 1, 1) := x_ins (j := 46) kk180 ia180 rfl
theorem i180_82 {xs : List Int32} : xtI (xTa xs) 180 82 = some (.if_icmp .eq 16, 3) := x_ins (j := 47) kk180 ia180 rfl
theorem i180_85 {xs : List Int32} : xtI (xTa xs) 180 85 = some (.iload 5, 2) := x_ins (j := 48) kk180 ia180 rfl
theorem i180_87 {xs : List Int32} : xtI (xTa xs) 180 87 = some (.iconst 2, 1) := x_ins (j := 49) kk180 ia180 rfl
theorem i180_88 {xs : List Int32} : xtI (xTa xs) 180 88 = some (.if_icmp .gt 10, 3) := x_ins (j := 50) kk180 ia180 rfl
theorem i180_91 {xs : List Int32} : xtI (xTa xs) 180 91 = some (.iload 5, 2) := x_ins (j := 51) kk180 ia180 rfl
theorem i180_93 {xs : List Int32} : xtI (xTa xs) 180 93 = some (.iload 4, 2) := x_ins (j := 52) kk180 ia180 rfl
theorem i180_95 {xs : List Int32} : xtI (xTa xs) 180 95 = some (.if_icmp .le 12, 3) := x_ins (j := 53) kk180 ia180 rfl
theorem i180_98 {xs : List Int32} : xtI (xTa xs) 180 98 = some (.aload_n 0, 1) := x_ins (j := 54) kk180 ia180 rfl
theorem i180_99 {xs : List Int32} : xtI (xTa xs) 180 99 = some (.iconst 3, 1) := x_ins (j := 55) kk180 ia180 rfl
theorem i180_100 {xs : List Int32} : xtI (xTa xs) 180 100 = some (.iload_n 1, 1) := x_ins (j := 56) kk180 ia180 rfl
theorem i180_101 {xs : List Int32} : xtI (xTa xs) 180 101 = some (.invokevirtual 267, 3) := x_ins (j := 57) kk180 ia180 rfl
theorem i180_104 {xs : List Int32} : xtI (xTa xs) 180 104 = some (.goto 49, 3) := x_ins (j := 58) kk180 ia180 rfl
theorem i180_107 {xs : List Int32} : xtI (xTa xs) 180 107 = some (.aload_n 0, 1) := x_ins (j := 59) kk180 ia180 rfl
theorem i180_108 {xs : List Int32} : xtI (xTa xs) 180 108 = some (.getfield 47, 3) := x_ins (j := 60) kk180 ia180 rfl
theorem i180_111 {xs : List Int32} : xtI (xTa xs) 180 111 = some (.bipush 40, 2) := x_ins (j := 61) kk180 ia180 rfl
theorem i180_113 {xs : List Int32} : xtI (xTa xs) 180 113 = some (.iaload, 1) := x_ins (j := 62) kk180 ia180 rfl
theorem i180_114 {xs : List Int32} : xtI (xTa xs) 180 114 = some (.bipush 24, 2) := x_ins (j := 63) kk180 ia180 rfl
theorem i180_116 {xs : List Int32} : xtI (xTa xs) 180 116 = some (.if_icmp .ne 12, 3) := x_ins (j := 64) kk180 ia180 rfl
theorem i180_119 {xs : List Int32} : xtI (xTa xs) 180 119 = some (.aload_n 0, 1) := x_ins (j := 65) kk180 ia180 rfl
theorem i180_120 {xs : List Int32} : xtI (xTa xs) 180 120 = some (.iconst 4, 1) := x_ins (j := 66) kk180 ia180 rfl
theorem i180_121 {xs : List Int32} : xtI (xTa xs) 180 121 = some (.iload_n 1, 1) := x_ins (j := 67) kk180 ia180 rfl
theorem i180_122 {xs : List Int32} : xtI (xTa xs) 180 122 = some (.invokevirtual 267, 3) := x_ins (j := 68) kk180 ia180 rfl
theorem i180_125 {xs : List Int32} : xtI (xTa xs) 180 125 = some (.goto 28, 3) := x_ins (j := 69) kk180 ia180 rfl
theorem i180_128 {xs : List Int32} : xtI (xTa xs) 180 128 = some (.aload_n 0, 1) := x_ins (j := 70) kk180 ia180 rfl
theorem i180_129 {xs : List Int32} : xtI (xTa xs) 180 129 = some (.iconst 1, 1) := x_ins (j := 71) kk180 ia180 rfl
theorem i180_130 {xs : List Int32} : xtI (xTa xs) 180 130 = some (.iload 5, 2) := x_ins (j := 72) kk180 ia180 rfl
theorem i180_132 {xs : List Int32} : xtI (xTa xs) 180 132 = some (.iload_n 1, 1) := x_ins (j := 73) kk180 ia180 rfl
theorem i180_133 {xs : List Int32} : xtI (xTa xs) 180 133 = some (.invokevirtual 301, 3) := x_ins (j := 74) kk180 ia180 rfl
theorem i180_136 {xs : List Int32} : xtI (xTa xs) 180 136 = some (.aload_n 0, 1) := x_ins (j := 75) kk180 ia180 rfl
theorem i180_137 {xs : List Int32} : xtI (xTa xs) 180 137 = some (.getfield 74, 3) := x_ins (j := 76) kk180 ia180 rfl
theorem i180_140 {xs : List Int32} : xtI (xTa xs) 180 140 = some (.aload_n 0, 1) := x_ins (j := 77) kk180 ia180 rfl
theorem i180_141 {xs : List Int32} : xtI (xTa xs) 180 141 = some (.invokevirtual 274, 3) := x_ins (j := 78) kk180 ia180 rfl
theorem i180_144 {xs : List Int32} : xtI (xTa xs) 180 144 = some (.iload_n 3, 1) := x_ins (j := 79) kk180 ia180 rfl
theorem i180_145 {xs : List Int32} : xtI (xTa xs) 180 145 = some (.bastore, 1) := x_ins (j := 80) kk180 ia180 rfl
theorem i180_146 {xs : List Int32} : xtI (xTa xs) 180 146 = some (.aload_n 0, 1) := x_ins (j := 81) kk180 ia180 rfl
theorem i180_147 {xs : List Int32} : xtI (xTa xs) 180 147 = some (.iload_n 1, 1) := x_ins (j := 82) kk180 ia180 rfl
theorem i180_148 {xs : List Int32} : xtI (xTa xs) 180 148 = some (.iconst 1, 1) := x_ins (j := 83) kk180 ia180 rfl
theorem i180_149 {xs : List Int32} : xtI (xTa xs) 180 149 = some (.iadd, 1) := x_ins (j := 84) kk180 ia180 rfl
theorem i180_150 {xs : List Int32} : xtI (xTa xs) 180 150 = some (.invokevirtual 305, 3) := x_ins (j := 85) kk180 ia180 rfl
theorem i180_153 {xs : List Int32} : xtI (xTa xs) 180 153 = some (.return_, 1) := x_ins (j := 86) kk180 ia180 rfl
theorem kk181 : xK0.getD 181 [] = k181 := rfl
set_option maxRecDepth 100000 in
theorem ia181 : (k181.all fun e => decide (k181.lookup e.1 = some e.2)) = true := by decide +kernel
theorem i181_0 {xs : List Int32} : xtI (xTa xs) 181 0 = some (.aload_n 0, 1) := x_ins (j := 0) kk181 ia181 rfl
theorem i181_1 {xs : List Int32} : xtI (xTa xs) 181 1 = some (.getfield 47, 3) := x_ins (j := 1) kk181 ia181 rfl
theorem i181_4 {xs : List Int32} : xtI (xTa xs) 181 4 = some (.bipush 40, 2) := x_ins (j := 2) kk181 ia181 rfl
theorem i181_6 {xs : List Int32} : xtI (xTa xs) 181 6 = some (.iaload, 1) := x_ins (j := 3) kk181 ia181 rfl
theorem i181_7 {xs : List Int32} : xtI (xTa xs) 181 7 = some (.ifCond .eq 10, 3) := x_ins (j := 4) kk181 ia181 rfl
theorem i181_10 {xs : List Int32} : xtI (xTa xs) 181 10 = some (.aload_n 0, 1) := x_ins (j := 5) kk181 ia181 rfl
theorem i181_11 {xs : List Int32} : xtI (xTa xs) 181 11 = some (.getfield 282, 3) := x_ins (j := 6) kk181 ia181 rfl
theorem i181_14 {xs : List Int32} : xtI (xTa xs) 181 14 = some (.ifCond .eq 7, 3) := x_ins (j := 7) kk181 ia181 rfl
theorem i181_17 {xs : List Int32} : xtI (xTa xs) 181 17 = some (.iconst 1, 1) := x_ins (j := 8) kk181 ia181 rfl
theorem i181_18 {xs : List Int32} : xtI (xTa xs) 181 18 = some (.goto 4, 3) := x_ins (j := 9) kk181 ia181 rfl
theorem i181_21 {xs : List Int32} : xtI (xTa xs) 181 21 = some (.iconst 0, 1) := x_ins (j := 10) kk181 ia181 rfl
theorem i181_22 {xs : List Int32} : xtI (xTa xs) 181 22 = some (.istore_n 3, 1) := x_ins (j := 11) kk181 ia181 rfl
theorem i181_23 {xs : List Int32} : xtI (xTa xs) 181 23 = some (.iload_n 3, 1) := x_ins (j := 12) kk181 ia181 rfl
theorem i181_24 {xs : List Int32} : xtI (xTa xs) 181 24 = some (.ifCond .ne 42, 3) := x_ins (j := 13) kk181 ia181 rfl
theorem i181_27 {xs : List Int32} : xtI (xTa xs) 181 27 = some (.aload_n 0, 1) := x_ins (j := 14) kk181 ia181 rfl
theorem i181_28 {xs : List Int32} : xtI (xTa xs) 181 28 = some (.getfield 53, 3) := x_ins (j := 15) kk181 ia181 rfl
theorem i181_31 {xs : List Int32} : xtI (xTa xs) 181 31 = some (.aload_n 0, 1) := x_ins (j := 16) kk181 ia181 rfl
theorem i181_32 {xs : List Int32} : xtI (xTa xs) 181 32 = some (.invokevirtual 274, 3) := x_ins (j := 17) kk181 ia181 rfl
theorem i181_35 {xs : List Int32} : xtI (xTa xs) 181 35 = some (.iaload, 1) := x_ins (j := 18) kk181 ia181 rfl
theorem i181_36 {xs : List Int32} : xtI (xTa xs) 181 36 = some (.istore 4, 2) := x_ins (j := 19) kk181 ia181 rfl
theorem i181_38 {xs : List Int32} : xtI (xTa xs) 181 38 = some (.iload 4, 2) := x_ins (j := 20) kk181 ia181 rfl
theorem i181_40 {xs : List Int32} : xtI (xTa xs) 181 40 = some (.iconst 5, 1) := x_ins (j := 21) kk181 ia181 rfl
theorem i181_41 {xs : List Int32} : xtI (xTa xs) 181 41 = some (.if_icmp .eq 10, 3) := x_ins (j := 22) kk181 ia181 rfl
theorem i181_44 {xs : List Int32} : xtI (xTa xs) 181 44 = some (.iload 4, 2) := x_ins (j := 23) kk181 ia181 rfl
theorem i181_46 {xs : List Int32} : xtI (xTa xs) 181 46 = some (.bipush 6, 2) := x_ins (j := 24) kk181 ia181 rfl
theorem i181_48 {xs : List Int32} : xtI (xTa xs) 181 48 = some (.if_icmp .ne 12, 3) := x_ins (j := 25) kk181 ia181 rfl
theorem i181_51 {xs : List Int32} : xtI (xTa xs) 181 51 = some (.aload_n 0, 1) := x_ins (j := 26) kk181 ia181 rfl
theorem i181_52 {xs : List Int32} : xtI (xTa xs) 181 52 = some (.iconst 2, 1) := x_ins (j := 27) kk181 ia181 rfl
theorem i181_53 {xs : List Int32} : xtI (xTa xs) 181 53 = some (.iload_n 1, 1) := x_ins (j := 28) kk181 ia181 rfl
theorem i181_54 {xs : List Int32} : xtI (xTa xs) 181 54 = some (.invokevirtual 267, 3) := x_ins (j := 29) kk181 ia181 rfl
theorem i181_57 {xs : List Int32} : xtI (xTa xs) 181 57 = some (.goto 8, 3) := x_ins (j := 30) kk181 ia181 rfl
theorem i181_60 {xs : List Int32} : xtI (xTa xs) 181 60 = some (.aload_n 0, 1) := x_ins (j := 31) kk181 ia181 rfl
theorem i181_61 {xs : List Int32} : xtI (xTa xs) 181 61 = some (.iload_n 1, 1) := x_ins (j := 32) kk181 ia181 rfl
theorem i181_62 {xs : List Int32} : xtI (xTa xs) 181 62 = some (.invokevirtual 305, 3) := x_ins (j := 33) kk181 ia181 rfl
theorem i181_65 {xs : List Int32} : xtI (xTa xs) 181 65 = some (.return_, 1) := x_ins (j := 34) kk181 ia181 rfl
theorem i181_66 {xs : List Int32} : xtI (xTa xs) 181 66 = some (.aload_n 0, 1) := x_ins (j := 35) kk181 ia181 rfl
theorem i181_67 {xs : List Int32} : xtI (xTa xs) 181 67 = some (.iload_n 1, 1) := x_ins (j := 36) kk181 ia181 rfl
theorem i181_68 {xs : List Int32} : xtI (xTa xs) 181 68 = some (.ldc2_w 308, 3) := x_ins (j := 37) kk181 ia181 rfl
theorem i181_71 {xs : List Int32} : xtI (xTa xs) 181 71 = some (.bipush 8, 2) := x_ins (j := 38) kk181 ia181 rfl
theorem i181_73 {xs : List Int32} : xtI (xTa xs) 181 73 = some (.invokevirtual 234, 3) := x_ins (j := 39) kk181 ia181 rfl
theorem i181_76 {xs : List Int32} : xtI (xTa xs) 181 76 = some (.ifCond .eq 38, 3) := x_ins (j := 40) kk181 ia181 rfl
theorem i181_79 {xs : List Int32} : xtI (xTa xs) 181 79 = some (.aload_n 0, 1) := x_ins (j := 41) kk181 ia181 rfl
theorem i181_80 {xs : List Int32} : xtI (xTa xs) 181 80 = some (.iload_n 1, 1) := x_ins (j := 42) kk181 ia181 rfl
theorem i181_81 {xs : List Int32} : xtI (xTa xs) 181 81 = some (.bipush 8, 2) := x_ins (j := 43) kk181 ia181 rfl
theorem i181_83 {xs : List Int32} : xtI (xTa xs) 181 83 = some (.iadd, 1) := x_ins (j := 44) kk181 ia181 rfl
theorem i181_84 {xs : List Int32} : xtI (xTa xs) 181 84 = some (.ldc2_w 310, 3) := x_ins (j := 45) kk181 ia181 rfl
theorem i181_87 {xs : List Int32} : xtI (xTa xs) 181 87 = some (.iconst 1, 1) := x_ins (j := 46) kk181 ia181 rfl
theorem i181_88 {xs : List Int32} : xtI (xTa xs) 181 88 = some (.invokevirtual 234, 3) := x_ins (j := 47) kk181 ia181 rfl
theorem i181_91 {xs : List Int32} : xtI (xTa xs) 181 91 = some (.ifCond .eq 23, 3) := x_ins (j := 48) kk181 ia181 rfl
theorem i181_94 {xs : List Int32} : xtI (xTa xs) 181 94 = some (.aload_n 0, 1) := x_ins (j := 49) kk181 ia181 rfl
theorem i181_95 {xs : List Int32} : xtI (xTa xs) 181 95 = some (.getfield 312, 3) := x_ins (j := 50) kk181 ia181 rfl
theorem i181_98 {xs : List Int32} : xtI (xTa xs) 181 98 = some (.ifCond .eq 16, 3) := x_ins (j := 51) kk181 ia181 rfl
theorem i181_101 {xs : List Int32} : xtI (xTa xs) 181 101 = some (.aload_n 0, 1) := x_ins (j := 52) kk181 ia181 rfl
theorem i181_102 {xs : List Int32} : xtI (xTa xs) 181 102 = some (.iload_n 1, 1) := x_ins (j := 53) kk181 ia181 rfl
theorem i181_103 {xs : List Int32} : xtI (xTa xs) 181 103 = some (.iload_n 2, 1) := x_ins (j := 54) kk181 ia181 rfl
theorem i181_104 {xs : List Int32} : xtI (xTa xs) 181 104 = some (.invokevirtual 315, 3) := x_ins (j := 55) kk181 ia181 rfl
theorem i181_107 {xs : List Int32} : xtI (xTa xs) 181 107 = some (.ifCond .eq 7, 3) := x_ins (j := 56) kk181 ia181 rfl
theorem i181_110 {xs : List Int32} : xtI (xTa xs) 181 110 = some (.iconst 1, 1) := x_ins (j := 57) kk181 ia181 rfl
theorem i181_111 {xs : List Int32} : xtI (xTa xs) 181 111 = some (.goto 4, 3) := x_ins (j := 58) kk181 ia181 rfl
theorem i181_114 {xs : List Int32} : xtI (xTa xs) 181 114 = some (.iconst 0, 1) := x_ins (j := 59) kk181 ia181 rfl
theorem i181_115 {xs : List Int32} : xtI (xTa xs) 181 115 = some (.istore 4, 2) := x_ins (j := 60) kk181 ia181 rfl
theorem i181_117 {xs : List Int32} : xtI (xTa xs) 181 117 = some (.aload_n 0, 1) := x_ins (j := 61) kk181 ia181 rfl
theorem i181_118 {xs : List Int32} : xtI (xTa xs) 181 118 = some (.getfield 278, 3) := x_ins (j := 62) kk181 ia181 rfl
theorem i181_121 {xs : List Int32} : xtI (xTa xs) 181 121 = some (.ifCond .ne 16, 3) := x_ins (j := 63) kk181 ia181 rfl
theorem i181_124 {xs : List Int32} : xtI (xTa xs) 181 124 = some (.iload 4, 2) := x_ins (j := 64) kk181 ia181 rfl
theorem i181_126 {xs : List Int32} : xtI (xTa xs) 181 126 = some (.ifCond .ne 20, 3) := x_ins (j := 65) kk181 ia181 rfl
theorem i181_129 {xs : List Int32} : xtI (xTa xs) 181 129 = some (.aload_n 0, 1) := x_ins (j := 66) kk181 ia181 rfl
theorem i181_130 {xs : List Int32} : xtI (xTa xs) 181 130 = some (.iload_n 1, 1) := x_ins (j := 67) kk181 ia181 rfl
theorem i181_131 {xs : List Int32} : xtI (xTa xs) 181 131 = some (.invokevirtual 264, 3) := x_ins (j := 68) kk181 ia181 rfl
theorem i181_134 {xs : List Int32} : xtI (xTa xs) 181 134 = some (.ifCond .eq 12, 3) := x_ins (j := 69) kk181 ia181 rfl
theorem i181_137 {xs : List Int32} : xtI (xTa xs) 181 137 = some (.aload_n 0, 1) := x_ins (j := 70) kk181 ia181 rfl
theorem i181_138 {xs : List Int32} : xtI (xTa xs) 181 138 = some (.iconst 2, 1) := x_ins (j := 71) kk181 ia181 rfl
theorem i181_139 {xs : List Int32} : xtI (xTa xs) 181 139 = some (.iload_n 1, 1) := x_ins (j := 72) kk181 ia181 rfl
theorem i181_140 {xs : List Int32} : xtI (xTa xs) 181 140 = some (.invokevirtual 267, 3) := x_ins (j := 73) kk181 ia181 rfl
theorem i181_143 {xs : List Int32} : xtI (xTa xs) 181 143 = some (.goto 95, 3) := x_ins (j := 74) kk181 ia181 rfl
theorem i181_146 {xs : List Int32} : xtI (xTa xs) 181 146 = some (.aload_n 0, 1) := x_ins (j := 75) kk181 ia181 rfl
theorem i181_147 {xs : List Int32} : xtI (xTa xs) 181 147 = some (.getfield 47, 3) := x_ins (j := 76) kk181 ia181 rfl
theorem i181_150 {xs : List Int32} : xtI (xTa xs) 181 150 = some (.bipush 40, 2) := x_ins (j := 77) kk181 ia181 rfl
theorem i181_152 {xs : List Int32} : xtI (xTa xs) 181 152 = some (.iaload, 1) := x_ins (j := 78) kk181 ia181 rfl
theorem i181_153 {xs : List Int32} : xtI (xTa xs) 181 153 = some (.bipush 24, 2) := x_ins (j := 79) kk181 ia181 rfl
theorem i181_155 {xs : List Int32} : xtI (xTa xs) 181 155 = some (.if_icmp .ne 12, 3) := x_ins (j := 80) kk181 ia181 rfl
theorem i181_158 {xs : List Int32} : xtI (xTa xs) 181 158 = some (.aload_n 0, 1) := x_ins (j := 81) kk181 ia181 rfl
theorem i181_159 {xs : List Int32} : xtI (xTa xs) 181 159 = some (.iconst 4, 1) := x_ins (j := 82) kk181 ia181 rfl
theorem i181_160 {xs : List Int32} : xtI (xTa xs) 181 160 = some (.iload_n 1, 1) := x_ins (j := 83) kk181 ia181 rfl
theorem i181_161 {xs : List Int32} : xtI (xTa xs) 181 161 = some (.invokevirtual 267, 3) := x_ins (j := 84) kk181 ia181 rfl
theorem i181_164 {xs : List Int32} : xtI (xTa xs) 181 164 = some (.goto 74, 3) := x_ins (j := 85) kk181 ia181 rfl
theorem i181_167 {xs : List Int32} : xtI (xTa xs) 181 167 = some (.iload 4, 2) := x_ins (j := 86) kk181 ia181 rfl
theorem i181_169 {xs : List Int32} : xtI (xTa xs) 181 169 = some (.ifCond .eq 57, 3) := x_ins (j := 87) kk181 ia181 rfl
theorem i181_172 {xs : List Int32} : xtI (xTa xs) 181 172 = some (.iconst 0, 1) := x_ins (j := 88) kk181 ia181 rfl
theorem i181_173 {xs : List Int32} : xtI (xTa xs) 181 173 = some (.istore 5, 2) := x_ins (j := 89) kk181 ia181 rfl
theorem i181_175 {xs : List Int32} : xtI (xTa xs) 181 175 = some (.iload 5, 2) := x_ins (j := 90) kk181 ia181 rfl
theorem i181_177 {xs : List Int32} : xtI (xTa xs) 181 177 = some (.aload_n 0, 1) := x_ins (j := 91) kk181 ia181 rfl
theorem i181_178 {xs : List Int32} : xtI (xTa xs) 181 178 = some (.getfield 47, 3) := x_ins (j := 92) kk181 ia181 rfl
theorem i181_181 {xs : List Int32} : xtI (xTa xs) 181 181 = some (.bipush 40, 2) := x_ins (j := 93) kk181 ia181 rfl
theorem i181_183 {xs : List Int32} : xtI (xTa xs) 181 183 = some (.iaload, 1) := x_ins (j := 94) kk181 ia181 rfl
theorem i181_184 {xs : List Int32} : xtI (xTa xs) 181 184 = some (.if_icmp .ge 31, 3) := x_ins (j := 95) kk181 ia181 rfl
theorem i181_187 {xs : List Int32} : xtI (xTa xs) 181 187 = some (.aload_n 0, 1) := x_ins (j := 96) kk181 ia181 rfl
theorem i181_188 {xs : List Int32} : xtI (xTa xs) 181 188 = some (.getfield 53, 3) := x_ins (j := 97) kk181 ia181 rfl
theorem i181_191 {xs : List Int32} : xtI (xTa xs) 181 191 = some (.sipush 960, 3) := x_ins (j := 98) kk181 ia181 rfl
theorem i181_194 {xs : List Int32} : xtI (xTa xs) 181 194 = some (.iload 5, 2) := x_ins (j := 99) kk181 ia181 rfl
theorem i181_196 {xs : List Int32} : xtI (xTa xs) 181 196 = some (.iadd, 1) := x_ins (j := 100) kk181 ia181 rfl
theorem i181_197 {xs : List Int32} : xtI (xTa xs) 181 197 = some (.iaload, 1) := x_ins (j := 101) kk181 ia181 rfl
theorem i181_198 {xs : List Int32} : xtI (xTa xs) 181 198 = some (.bipush 7, 2) := x_ins (j := 102) kk181 ia181 rfl
theorem i181_200 {xs : List Int32} : xtI (xTa xs) 181 200 = some (.if_icmp .ne 9, 3) := x_ins (j := 103) kk181 ia181 rfl
theorem i181_203 {xs : List Int32} : xtI (xTa xs) 181 203 = some (.aload_n 0, 1) := x_ins (j := 104) kk181 ia181 rfl
theorem i181_204 {xs : List Int32} : xtI (xTa xs) 181 204 = some (.iconst 5, 1) := x_ins (j := 105) kk181 ia181 rfl
theorem i181_205 {xs : List Int32} : xtI (xTa xs) 181 205 = some (.iload_n 1, 1) := x_ins (j := 106) kk181 ia181 rfl
theorem i181_206 {xs : List Int32} : xtI (xTa xs) 181 206 = some (.invokevirtual 267, 3) := x_ins (j := 107) kk181 ia181 rfl
theorem i181_209 {xs : List Int32} : xtI (xTa xs) 181 209 = some (.iinc 5 1, 3) := x_ins (j := 108) kk181 ia181 rfl
theorem i181_212 {xs : List Int32} : xtI (xTa xs) 181 212 = some (.goto (-37), 3) := x_ins (j := 109) kk181 ia181 rfl
theorem i181_215 {xs : List Int32} : xtI (xTa xs) 181 215 = some (.aload_n 0, 1) := x_ins (j := 110) kk181 ia181 rfl
theorem i181_216 {xs : List Int32} : xtI (xTa xs) 181 216 = some (.bipush 7, 2) := x_ins (j := 111) kk181 ia181 rfl
theorem i181_218 {xs : List Int32} : xtI (xTa xs) 181 218 = some (.iconst 0, 1) := x_ins (j := 112) kk181 ia181 rfl
theorem i181_219 {xs : List Int32} : xtI (xTa xs) 181 219 = some (.iload_n 1, 1) := x_ins (j := 113) kk181 ia181 rfl
theorem i181_220 {xs : List Int32} : xtI (xTa xs) 181 220 = some (.invokevirtual 301, 3) := x_ins (j := 114) kk181 ia181 rfl
theorem i181_223 {xs : List Int32} : xtI (xTa xs) 181 223 = some (.goto 15, 3) := x_ins (j := 115) kk181 ia181 rfl
theorem i181_226 {xs : List Int32} : xtI (xTa xs) 181 226 = some (.aload_n 0, 1) := x_ins (j := 116) kk181 ia181 rfl
theorem i181_227 {xs : List Int32} : xtI (xTa xs) 181 227 = some (.iconst 0, 1) := x_ins (j := 117) kk181 ia181 rfl
theorem i181_228 {xs : List Int32} : xtI (xTa xs) 181 228 = some (.iconst 0, 1) := x_ins (j := 118) kk181 ia181 rfl
theorem i181_229 {xs : List Int32} : xtI (xTa xs) 181 229 = some (.iload_n 1, 1) := x_ins (j := 119) kk181 ia181 rfl
theorem i181_230 {xs : List Int32} : xtI (xTa xs) 181 230 = some (.invokevirtual 301, 3) := x_ins (j := 120) kk181 ia181 rfl
theorem i181_233 {xs : List Int32} : xtI (xTa xs) 181 233 = some (.aload_n 0, 1) := x_ins (j := 121) kk181 ia181 rfl
theorem i181_234 {xs : List Int32} : xtI (xTa xs) 181 234 = some (.iload_n 1, 1) := x_ins (j := 122) kk181 ia181 rfl
theorem i181_235 {xs : List Int32} : xtI (xTa xs) 181 235 = some (.invokevirtual 305, 3) := x_ins (j := 123) kk181 ia181 rfl
theorem i181_238 {xs : List Int32} : xtI (xTa xs) 181 238 = some (.return_, 1) := x_ins (j := 124) kk181 ia181 rfl
theorem kk182 : xK0.getD 182 [] = k182 := rfl
set_option maxRecDepth 100000 in
theorem ia182 : (k182.all fun e => decide (k182.lookup e.1 = some e.2)) = true := by decide +kernel
theorem i182_0 {xs : List Int32} : xtI (xTa xs) 182 0 = some (.aload_n 0, 1) := x_ins (j := 0) kk182 ia182 rfl
theorem i182_1 {xs : List Int32} : xtI (xTa xs) 182 1 = some (.iload_n 1, 1) := x_ins (j := 1) kk182 ia182 rfl
theorem i182_2 {xs : List Int32} : xtI (xTa xs) 182 2 = some (.bipush 9, 2) := x_ins (j := 2) kk182 ia182 rfl
theorem i182_4 {xs : List Int32} : xtI (xTa xs) 182 4 = some (.iadd, 1) := x_ins (j := 3) kk182 ia182 rfl
theorem i182_5 {xs : List Int32} : xtI (xTa xs) 182 5 = some (.invokevirtual 255, 3) := x_ins (j := 4) kk182 ia182 rfl
theorem i182_8 {xs : List Int32} : xtI (xTa xs) 182 8 = some (.aload_n 0, 1) := x_ins (j := 5) kk182 ia182 rfl
theorem i182_9 {xs : List Int32} : xtI (xTa xs) 182 9 = some (.getfield 224, 3) := x_ins (j := 6) kk182 ia182 rfl
theorem i182_12 {xs : List Int32} : xtI (xTa xs) 182 12 = some (.if_icmp .ge 5, 3) := x_ins (j := 7) kk182 ia182 rfl
theorem i182_15 {xs : List Int32} : xtI (xTa xs) 182 15 = some (.iconst 0, 1) := x_ins (j := 8) kk182 ia182 rfl
theorem i182_16 {xs : List Int32} : xtI (xTa xs) 182 16 = some (.ireturn, 1) := x_ins (j := 9) kk182 ia182 rfl
theorem i182_17 {xs : List Int32} : xtI (xTa xs) 182 17 = some (.aload_n 0, 1) := x_ins (j := 10) kk182 ia182 rfl
theorem i182_18 {xs : List Int32} : xtI (xTa xs) 182 18 = some (.getfield 224, 3) := x_ins (j := 11) kk182 ia182 rfl
theorem i182_21 {xs : List Int32} : xtI (xTa xs) 182 21 = some (.istore_n 3, 1) := x_ins (j := 12) kk182 ia182 rfl
theorem i182_22 {xs : List Int32} : xtI (xTa xs) 182 22 = some (.iconst 1, 1) := x_ins (j := 13) kk182 ia182 rfl
theorem i182_23 {xs : List Int32} : xtI (xTa xs) 182 23 = some (.istore 4, 2) := x_ins (j := 14) kk182 ia182 rfl
theorem i182_25 {xs : List Int32} : xtI (xTa xs) 182 25 = some (.iload_n 3, 1) := x_ins (j := 15) kk182 ia182 rfl
theorem i182_26 {xs : List Int32} : xtI (xTa xs) 182 26 = some (.iconst 1, 1) := x_ins (j := 16) kk182 ia182 rfl
theorem i182_27 {xs : List Int32} : xtI (xTa xs) 182 27 = some (.iadd, 1) := x_ins (j := 17) kk182 ia182 rfl
theorem i182_28 {xs : List Int32} : xtI (xTa xs) 182 28 = some (.iload_n 2, 1) := x_ins (j := 18) kk182 ia182 rfl
theorem i182_29 {xs : List Int32} : xtI (xTa xs) 182 29 = some (.if_icmp .ge 60, 3) := x_ins (j := 19) kk182 ia182 rfl
theorem i182_32 {xs : List Int32} : xtI (xTa xs) 182 32 = some (.aload_n 0, 1) := x_ins (j := 20) kk182 ia182 rfl
theorem i182_33 {xs : List Int32} : xtI (xTa xs) 182 33 = some (.aload_n 0, 1) := x_ins (j := 21) kk182 ia182 rfl
theorem i182_34 {xs : List Int32} : xtI (xTa xs) 182 34 = some (.iload_n 3, 1) := x_ins (j := 22) kk182 ia182 rfl
theorem i182_35 {xs : List Int32} : xtI (xTa xs) 182 35 = some (.iconst 1, 1) := x_ins (j := 23) kk182 ia182 rfl
theorem i182_36 {xs : List Int32} : xtI (xTa xs) 182 36 = some (.iadd, 1) := x_ins (j := 24) kk182 ia182 rfl
theorem i182_37 {xs : List Int32} : xtI (xTa xs) 182 37 = some (.iload_n 2, 1) := x_ins (j := 25) kk182 ia182 rfl
theorem i182_38 {xs : List Int32} : xtI (xTa xs) 182 38 = some (.invokevirtual 285, 3) := x_ins (j := 26) kk182 ia182 rfl
theorem i182_41 {xs : List Int32} : xtI (xTa xs) 182 41 = some (.putfield 224, 3) := x_ins (j := 27) kk182 ia182 rfl
theorem i182_44 {xs : List Int32} : xtI (xTa xs) 182 44 = some (.aload_n 0, 1) := x_ins (j := 28) kk182 ia182 rfl
theorem i182_45 {xs : List Int32} : xtI (xTa xs) 182 45 = some (.iload_n 3, 1) := x_ins (j := 29) kk182 ia182 rfl
theorem i182_46 {xs : List Int32} : xtI (xTa xs) 182 46 = some (.iconst 1, 1) := x_ins (j := 30) kk182 ia182 rfl
theorem i182_47 {xs : List Int32} : xtI (xTa xs) 182 47 = some (.iadd, 1) := x_ins (j := 31) kk182 ia182 rfl
theorem i182_48 {xs : List Int32} : xtI (xTa xs) 182 48 = some (.invokevirtual 255, 3) := x_ins (j := 32) kk182 ia182 rfl
theorem i182_51 {xs : List Int32} : xtI (xTa xs) 182 51 = some (.istore 5, 2) := x_ins (j := 33) kk182 ia182 rfl
theorem i182_53 {xs : List Int32} : xtI (xTa xs) 182 53 = some (.iload 5, 2) := x_ins (j := 34) kk182 ia182 rfl
theorem i182_55 {xs : List Int32} : xtI (xTa xs) 182 55 = some (.aload_n 0, 1) := x_ins (j := 35) kk182 ia182 rfl
theorem i182_56 {xs : List Int32} : xtI (xTa xs) 182 56 = some (.getfield 224, 3) := x_ins (j := 36) kk182 ia182 rfl
theorem i182_59 {xs : List Int32} : xtI (xTa xs) 182 59 = some (.if_icmp .eq 23, 3) := x_ins (j := 37) kk182 ia182 rfl
theorem i182_62 {xs : List Int32} : xtI (xTa xs) 182 62 = some (.aload_n 0, 1) := x_ins (j := 38) kk182 ia182 rfl
theorem i182_63 {xs : List Int32} : xtI (xTa xs) 182 63 = some (.iload 5, 2) := x_ins (j := 39) kk182 ia182 rfl
theorem i182_65 {xs : List Int32} : xtI (xTa xs) 182 65 = some (.invokevirtual 227, 3) := x_ins (j := 40) kk182 ia182 rfl
theorem i182_68 {xs : List Int32} : xtI (xTa xs) 182 68 = some (.bipush 64, 2) := x_ins (j := 41) kk182 ia182 rfl
theorem i182_70 {xs : List Int32} : xtI (xTa xs) 182 70 = some (.if_icmp .eq 12, 3) := x_ins (j := 42) kk182 ia182 rfl
theorem i182_73 {xs : List Int32} : xtI (xTa xs) 182 73 = some (.aload_n 0, 1) := x_ins (j := 43) kk182 ia182 rfl
theorem i182_74 {xs : List Int32} : xtI (xTa xs) 182 74 = some (.iload 5, 2) := x_ins (j := 44) kk182 ia182 rfl
theorem i182_76 {xs : List Int32} : xtI (xTa xs) 182 76 = some (.invokevirtual 292, 3) := x_ins (j := 45) kk182 ia182 rfl
theorem i182_79 {xs : List Int32} : xtI (xTa xs) 182 79 = some (.ifCond .eq 7, 3) := x_ins (j := 46) kk182 ia182 rfl
theorem i182_82 {xs : List Int32} : xtI (xTa xs) 182 82 = some (.iconst 1, 1) := x_ins (j := 47) kk182 ia182 rfl
theorem i182_83 {xs : List Int32} : xtI (xTa xs) 182 83 = some (.goto 4, 3) := x_ins (j := 48) kk182 ia182 rfl
theorem i182_86 {xs : List Int32} : xtI (xTa xs) 182 86 = some (.iconst 0, 1) := x_ins (j := 49) kk182 ia182 rfl
theorem i182_87 {xs : List Int32} : xtI (xTa xs) 182 87 = some (.istore 4, 2) := x_ins (j := 50) kk182 ia182 rfl
theorem i182_89 {xs : List Int32} : xtI (xTa xs) 182 89 = some (.aload_n 0, 1) := x_ins (j := 51) kk182 ia182 rfl
theorem i182_90 {xs : List Int32} : xtI (xTa xs) 182 90 = some (.iload_n 3, 1) := x_ins (j := 52) kk182 ia182 rfl
theorem i182_91 {xs : List Int32} : xtI (xTa xs) 182 91 = some (.putfield 224, 3) := x_ins (j := 53) kk182 ia182 rfl
theorem i182_94 {xs : List Int32} : xtI (xTa xs) 182 94 = some (.iload 4, 2) := x_ins (j := 54) kk182 ia182 rfl
theorem i182_96 {xs : List Int32} : xtI (xTa xs) 182 96 = some (.ireturn, 1) := x_ins (j := 55) kk182 ia182 rfl
theorem kk183 : xK0.getD 183 [] = k183 := rfl
set_option maxRecDepth 100000 in
theorem ia183 : (k183.all fun e => decide (k183.lookup e.1 = some e.2)) = true := by decide +kernel
theorem i183_0 {xs : List Int32} : xtI (xTa xs) 183 0 = some (.iload_n 2, 1) := x_ins (j := 0) kk183 ia183 rfl
theorem i183_1 {xs : List Int32} : xtI (xTa xs) 183 1 = some (.iload_n 1, 1) := x_ins (j := 1) kk183 ia183 rfl
theorem i183_2 {xs : List Int32} : xtI (xTa xs) 183 2 = some (.isub, 1) := x_ins (j := 2) kk183 ia183 rfl
theorem i183_3 {xs : List Int32} : xtI (xTa xs) 183 3 = some (.iconst 1, 1) := x_ins (j := 3) kk183 ia183 rfl
theorem i183_4 {xs : List Int32} : xtI (xTa xs) 183 4 = some (.isub, 1) := x_ins (j := 4) kk183 ia183 rfl
theorem i183_5 {xs : List Int32} : xtI (xTa xs) 183 5 = some (.istore_n 3, 1) := x_ins (j := 5) kk183 ia183 rfl
theorem i183_6 {xs : List Int32} : xtI (xTa xs) 183 6 = some (.iconst (-1), 1) := x_ins (j := 6) kk183 ia183 rfl
theorem i183_7 {xs : List Int32} : xtI (xTa xs) 183 7 = some (.istore 4, 2) := x_ins (j := 7) kk183 ia183 rfl
theorem i183_9 {xs : List Int32} : xtI (xTa xs) 183 9 = some (.iload_n 3, 1) := x_ins (j := 8) kk183 ia183 rfl
theorem i183_10 {xs : List Int32} : xtI (xTa xs) 183 10 = some (.iconst 5, 1) := x_ins (j := 9) kk183 ia183 rfl
theorem i183_11 {xs : List Int32} : xtI (xTa xs) 183 11 = some (.if_icmp .ne 21, 3) := x_ins (j := 10) kk183 ia183 rfl
theorem i183_14 {xs : List Int32} : xtI (xTa xs) 183 14 = some (.aload_n 0, 1) := x_ins (j := 11) kk183 ia183 rfl
theorem i183_15 {xs : List Int32} : xtI (xTa xs) 183 15 = some (.iload_n 1, 1) := x_ins (j := 12) kk183 ia183 rfl
theorem i183_16 {xs : List Int32} : xtI (xTa xs) 183 16 = some (.iconst 1, 1) := x_ins (j := 13) kk183 ia183 rfl
theorem i183_17 {xs : List Int32} : xtI (xTa xs) 183 17 = some (.iadd, 1) := x_ins (j := 14) kk183 ia183 rfl
theorem i183_18 {xs : List Int32} : xtI (xTa xs) 183 18 = some (.ldc2_w 319, 3) := x_ins (j := 15) kk183 ia183 rfl
theorem i183_21 {xs : List Int32} : xtI (xTa xs) 183 21 = some (.iconst 5, 1) := x_ins (j := 16) kk183 ia183 rfl
theorem i183_22 {xs : List Int32} : xtI (xTa xs) 183 22 = some (.invokevirtual 234, 3) := x_ins (j := 17) kk183 ia183 rfl
theorem i183_25 {xs : List Int32} : xtI (xTa xs) 183 25 = some (.ifCond .eq 7, 3) := x_ins (j := 18) kk183 ia183 rfl
theorem i183_28 {xs : List Int32} : xtI (xTa xs) 183 28 = some (.iconst 2, 1) := x_ins (j := 19) kk183 ia183 rfl
theorem i183_29 {xs : List Int32} : xtI (xTa xs) 183 29 = some (.goto 5, 3) := x_ins (j := 20) kk183 ia183 rfl
theorem i183_32 {xs : List Int32} : xtI (xTa xs) 183 32 = some (.iload 4, 2) := x_ins (j := 21) kk183 ia183 rfl
theorem i183_34 {xs : List Int32} : xtI (xTa xs) 183 34 = some (.istore 4, 2) := x_ins (j := 22) kk183 ia183 rfl
theorem i183_36 {xs : List Int32} : xtI (xTa xs) 183 36 = some (.iload_n 3, 1) := x_ins (j := 23) kk183 ia183 rfl
theorem i183_37 {xs : List Int32} : xtI (xTa xs) 183 37 = some (.bipush 6, 2) := x_ins (j := 24) kk183 ia183 rfl
theorem i183_39 {xs : List Int32} : xtI (xTa xs) 183 39 = some (.if_icmp .ne 22, 3) := x_ins (j := 25) kk183 ia183 rfl
theorem i183_42 {xs : List Int32} : xtI (xTa xs) 183 42 = some (.aload_n 0, 1) := x_ins (j := 26) kk183 ia183 rfl
theorem i183_43 {xs : List Int32} : xtI (xTa xs) 183 43 = some (.iload_n 1, 1) := x_ins (j := 27) kk183 ia183 rfl
theorem i183_44 {xs : List Int32} : xtI (xTa xs) 183 44 = some (.iconst 1, 1) := x_ins (j := 28) kk183 ia183 rfl
theorem i183_45 {xs : List Int32} : xtI (xTa xs) 183 45 = some (.iadd, 1) := x_ins (j := 29) kk183 ia183 rfl
theorem i183_46 {xs : List Int32} : xtI (xTa xs) 183 46 = some (.ldc2_w 321, 3) := x_ins (j := 30) kk183 ia183 rfl
theorem i183_49 {xs : List Int32} : xtI (xTa xs) 183 49 = some (.bipush 6, 2) := x_ins (j := 31) kk183 ia183 rfl
theorem i183_51 {xs : List Int32} : xtI (xTa xs) 183 51 = some (.invokevirtual 234, 3) := x_ins (j := 32) kk183 ia183 rfl
theorem i183_54 {xs : List Int32} : xtI (xTa xs) 183 54 = some (.ifCond .eq 7, 3) := x_ins (j := 33) kk183 ia183 rfl
theorem i183_57 {xs : List Int32} : xtI (xTa xs) 183 57 = some (.iconst 3, 1) := x_ins (j := 34) kk183 ia183 rfl
theorem i183_58 {xs : List Int32} : xtI (xTa xs) 183 58 = some (.goto 5, 3) := x_ins (j := 35) kk183 ia183 rfl
theorem i183_61 {xs : List Int32} : xtI (xTa xs) 183 61 = some (.iload 4, 2) := x_ins (j := 36) kk183 ia183 rfl
theorem i183_63 {xs : List Int32} : xtI (xTa xs) 183 63 = some (.istore 4, 2) := x_ins (j := 37) kk183 ia183 rfl
theorem i183_65 {xs : List Int32} : xtI (xTa xs) 183 65 = some (.iload_n 3, 1) := x_ins (j := 38) kk183 ia183 rfl
theorem i183_66 {xs : List Int32} : xtI (xTa xs) 183 66 = some (.bipush 6, 2) := x_ins (j := 39) kk183 ia183 rfl
theorem i183_68 {xs : List Int32} : xtI (xTa xs) 183 68 = some (.if_icmp .ne 22, 3) := x_ins (j := 40) kk183 ia183 rfl
theorem i183_71 {xs : List Int32} : xtI (xTa xs) 183 71 = some (.aload_n 0, 1) := x_ins (j := 41) kk183 ia183 rfl
theorem i183_72 {xs : List Int32} : xtI (xTa xs) 183 72 = some (.iload_n 1, 1) := x_ins (j := 42) kk183 ia183 rfl
theorem i183_73 {xs : List Int32} : xtI (xTa xs) 183 73 = some (.iconst 1, 1) := x_ins (j := 43) kk183 ia183 rfl
theorem i183_74 {xs : List Int32} : xtI (xTa xs) 183 74 = some (.iadd, 1) := x_ins (j := 44) kk183 ia183 rfl
theorem i183_75 {xs : List Int32} : xtI (xTa xs) 183 75 = some (.ldc2_w 323, 3) := x_ins (j := 45) kk183 ia183 rfl
theorem i183_78 {xs : List Int32} : xtI (xTa xs) 183 78 = some (.bipush 6, 2) := x_ins (j := 46) kk183 ia183 rfl
theorem i183_80 {xs : List Int32} : xtI (xTa xs) 183 80 = some (.invokevirtual 234, 3) := x_ins (j := 47) kk183 ia183 rfl
theorem i183_83 {xs : List Int32} : xtI (xTa xs) 183 83 = some (.ifCond .eq 7, 3) := x_ins (j := 48) kk183 ia183 rfl
theorem i183_86 {xs : List Int32} : xtI (xTa xs) 183 86 = some (.iconst 4, 1) := x_ins (j := 49) kk183 ia183 rfl
theorem i183_87 {xs : List Int32} : xtI (xTa xs) 183 87 = some (.goto 5, 3) := x_ins (j := 50) kk183 ia183 rfl
theorem i183_90 {xs : List Int32} : xtI (xTa xs) 183 90 = some (.iload 4, 2) := x_ins (j := 51) kk183 ia183 rfl
theorem i183_92 {xs : List Int32} : xtI (xTa xs) 183 92 = some (.istore 4, 2) := x_ins (j := 52) kk183 ia183 rfl
theorem i183_94 {xs : List Int32} : xtI (xTa xs) 183 94 = some (.iload_n 3, 1) := x_ins (j := 53) kk183 ia183 rfl
theorem i183_95 {xs : List Int32} : xtI (xTa xs) 183 95 = some (.iconst 3, 1) := x_ins (j := 54) kk183 ia183 rfl
theorem i183_96 {xs : List Int32} : xtI (xTa xs) 183 96 = some (.if_icmp .ne 21, 3) := x_ins (j := 55) kk183 ia183 rfl
theorem i183_99 {xs : List Int32} : xtI (xTa xs) 183 99 = some (.aload_n 0, 1) := x_ins (j := 56) kk183 ia183 rfl
theorem i183_100 {xs : List Int32} : xtI (xTa xs) 183 100 = some (.iload_n 1, 1) := x_ins (j := 57) kk183 ia183 rfl
theorem i183_101 {xs : List Int32} : xtI (xTa xs) 183 101 = some (.iconst 1, 1) := x_ins (j := 58) kk183 ia183 rfl
theorem i183_102 {xs : List Int32} : xtI (xTa xs) 183 102 = some (.iadd, 1) := x_ins (j := 59) kk183 ia183 rfl
theorem i183_103 {xs : List Int32} : xtI (xTa xs) 183 103 = some (.ldc2_w 325, 3) := x_ins (j := 60) kk183 ia183 rfl
theorem i183_106 {xs : List Int32} : xtI (xTa xs) 183 106 = some (.iconst 3, 1) := x_ins (j := 61) kk183 ia183 rfl
theorem i183_107 {xs : List Int32} : xtI (xTa xs) 183 107 = some (.invokevirtual 234, 3) := x_ins (j := 62) kk183 ia183 rfl
theorem i183_110 {xs : List Int32} : xtI (xTa xs) 183 110 = some (.ifCond .eq 7, 3) := x_ins (j := 63) kk183 ia183 rfl
theorem i183_113 {xs : List Int32} : xtI (xTa xs) 183 113 = some (.iconst 5, 1) := x_ins (j := 64) kk183 ia183 rfl
theorem i183_114 {xs : List Int32} : xtI (xTa xs) 183 114 = some (.goto 5, 3) := x_ins (j := 65) kk183 ia183 rfl
theorem i183_117 {xs : List Int32} : xtI (xTa xs) 183 117 = some (.iload 4, 2) := x_ins (j := 66) kk183 ia183 rfl
theorem i183_119 {xs : List Int32} : xtI (xTa xs) 183 119 = some (.istore 4, 2) := x_ins (j := 67) kk183 ia183 rfl
theorem i183_121 {xs : List Int32} : xtI (xTa xs) 183 121 = some (.iload_n 3, 1) := x_ins (j := 68) kk183 ia183 rfl
theorem i183_122 {xs : List Int32} : xtI (xTa xs) 183 122 = some (.iconst 5, 1) := x_ins (j := 69) kk183 ia183 rfl
theorem i183_123 {xs : List Int32} : xtI (xTa xs) 183 123 = some (.if_icmp .ne 22, 3) := x_ins (j := 70) kk183 ia183 rfl
theorem i183_126 {xs : List Int32} : xtI (xTa xs) 183 126 = some (.aload_n 0, 1) := x_ins (j := 71) kk183 ia183 rfl
theorem i183_127 {xs : List Int32} : xtI (xTa xs) 183 127 = some (.iload_n 1, 1) := x_ins (j := 72) kk183 ia183 rfl
theorem i183_128 {xs : List Int32} : xtI (xTa xs) 183 128 = some (.iconst 1, 1) := x_ins (j := 73) kk183 ia183 rfl
theorem i183_129 {xs : List Int32} : xtI (xTa xs) 183 129 = some (.iadd, 1) := x_ins (j := 74) kk183 ia183 rfl
theorem i183_130 {xs : List Int32} : xtI (xTa xs) 183 130 = some (.ldc2_w 327, 3) := x_ins (j := 75) kk183 ia183 rfl
theorem i183_133 {xs : List Int32} : xtI (xTa xs) 183 133 = some (.iconst 5, 1) := x_ins (j := 76) kk183 ia183 rfl
theorem i183_134 {xs : List Int32} : xtI (xTa xs) 183 134 = some (.invokevirtual 234, 3) := x_ins (j := 77) kk183 ia183 rfl
theorem i183_137 {xs : List Int32} : xtI (xTa xs) 183 137 = some (.ifCond .eq 8, 3) := x_ins (j := 78) kk183 ia183 rfl
theorem i183_140 {xs : List Int32} : xtI (xTa xs) 183 140 = some (.bipush 6, 2) := x_ins (j := 79) kk183 ia183 rfl
theorem i183_142 {xs : List Int32} : xtI (xTa xs) 183 142 = some (.goto 5, 3) := x_ins (j := 80) kk183 ia183 rfl
theorem i183_145 {xs : List Int32} : xtI (xTa xs) 183 145 = some (.iload 4, 2) := x_ins (j := 81) kk183 ia183 rfl
theorem i183_147 {xs : List Int32} : xtI (xTa xs) 183 147 = some (.ireturn, 1) := x_ins (j := 82) kk183 ia183 rfl
theorem kk184 : xK0.getD 184 [] = k184 := rfl
set_option maxRecDepth 100000 in
theorem ia184 : (k184.all fun e => decide (k184.lookup e.1 = some e.2)) = true := by decide +kernel
theorem i184_0 {xs : List Int32} : xtI (xTa xs) 184 0 = some (.iconst 0, 1) := x_ins (j := 0) kk184 ia184 rfl
theorem i184_1 {xs : List Int32} : xtI (xTa xs) 184 1 = some (.istore_n 2, 1) := x_ins (j := 1) kk184 ia184 rfl
theorem i184_2 {xs : List Int32} : xtI (xTa xs) 184 2 = some (.iconst 0, 1) := x_ins (j := 2) kk184 ia184 rfl
theorem i184_3 {xs : List Int32} : xtI (xTa xs) 184 3 = some (.istore_n 3, 1) := x_ins (j := 3) kk184 ia184 rfl
theorem i184_4 {xs : List Int32} : xtI (xTa xs) 184 4 = some (.iload_n 3, 1) := x_ins (j := 4) kk184 ia184 rfl
theorem i184_5 {xs : List Int32} : xtI (xTa xs) 184 5 = some (.aload_n 0, 1) := x_ins (j := 5) kk184 ia184 rfl
theorem i184_6 {xs : List Int32} : xtI (xTa xs) 184 6 = some (.getfield 47, 3) := x_ins (j := 6) kk184 ia184 rfl
theorem i184_9 {xs : List Int32} : xtI (xTa xs) 184 9 = some (.bipush 40, 2) := x_ins (j := 7) kk184 ia184 rfl
theorem i184_11 {xs : List Int32} : xtI (xTa xs) 184 11 = some (.iaload, 1) := x_ins (j := 8) kk184 ia184 rfl
theorem i184_12 {xs : List Int32} : xtI (xTa xs) 184 12 = some (.if_icmp .ge 33, 3) := x_ins (j := 9) kk184 ia184 rfl
theorem i184_15 {xs : List Int32} : xtI (xTa xs) 184 15 = some (.iload_n 2, 1) := x_ins (j := 10) kk184 ia184 rfl
theorem i184_16 {xs : List Int32} : xtI (xTa xs) 184 16 = some (.ifCond .ne 17, 3) := x_ins (j := 11) kk184 ia184 rfl
theorem i184_19 {xs : List Int32} : xtI (xTa xs) 184 19 = some (.aload_n 0, 1) := x_ins (j := 12) kk184 ia184 rfl
theorem i184_20 {xs : List Int32} : xtI (xTa xs) 184 20 = some (.getfield 53, 3) := x_ins (j := 13) kk184 ia184 rfl
theorem i184_23 {xs : List Int32} : xtI (xTa xs) 184 23 = some (.sipush 960, 3) := x_ins (j := 14) kk184 ia184 rfl
theorem i184_26 {xs : List Int32} : xtI (xTa xs) 184 26 = some (.iload_n 3, 1) := x_ins (j := 15) kk184 ia184 rfl
theorem i184_27 {xs : List Int32} : xtI (xTa xs) 184 27 = some (.iadd, 1) := x_ins (j := 16) kk184 ia184 rfl
theorem i184_28 {xs : List Int32} : xtI (xTa xs) 184 28 = some (.iaload, 1) := x_ins (j := 17) kk184 ia184 rfl
theorem i184_29 {xs : List Int32} : xtI (xTa xs) 184 29 = some (.iload_n 1, 1) := x_ins (j := 18) kk184 ia184 rfl
theorem i184_30 {xs : List Int32} : xtI (xTa xs) 184 30 = some (.if_icmp .ne 7, 3) := x_ins (j := 19) kk184 ia184 rfl
theorem i184_33 {xs : List Int32} : xtI (xTa xs) 184 33 = some (.iconst 1, 1) := x_ins (j := 20) kk184 ia184 rfl
theorem i184_34 {xs : List Int32} : xtI (xTa xs) 184 34 = some (.goto 4, 3) := x_ins (j := 21) kk184 ia184 rfl
theorem i184_37 {xs : List Int32} : xtI (xTa xs) 184 37 = some (.iconst 0, 1) := x_ins (j := 22) kk184 ia184 rfl
theorem i184_38 {xs : List Int32} : xtI (xTa xs) 184 38 = some (.istore_n 2, 1) := x_ins (j := 23) kk184 ia184 rfl
theorem i184_39 {xs : List Int32} : xtI (xTa xs) 184 39 = some (.iinc 3 1, 3) := x_ins (j := 24) kk184 ia184 rfl
theorem i184_42 {xs : List Int32} : xtI (xTa xs) 184 42 = some (.goto (-38), 3) := x_ins (j := 25) kk184 ia184 rfl
theorem i184_45 {xs : List Int32} : xtI (xTa xs) 184 45 = some (.iload_n 2, 1) := x_ins (j := 26) kk184 ia184 rfl
theorem i184_46 {xs : List Int32} : xtI (xTa xs) 184 46 = some (.ireturn, 1) := x_ins (j := 27) kk184 ia184 rfl
theorem kk185 : xK0.getD 185 [] = k185 := rfl
set_option maxRecDepth 100000 in
theorem ia185 : (k185.all fun e => decide (k185.lookup e.1 = some e.2)) = true := by decide +kernel
theorem i185_0 {xs : List Int32} : xtI (xTa xs) 185 0 = some (.iconst 0, 1) := x_ins (j := 0) kk185 ia185 rfl
theorem i185_1 {xs : List Int32} : xtI (xTa xs) 185 1 = some (.istore_n 3, 1) := x_ins (j := 1) kk185 ia185 rfl
theorem i185_2 {xs : List Int32} : xtI (xTa xs) 185 2 = some (.iconst 0, 1) := x_ins (j := 2) kk185 ia185 rfl
theorem i185_3 {xs : List Int32} : xtI (xTa xs) 185 3 = some (.istore 4, 2) := x_ins (j := 3) kk185 ia185 rfl
theorem i185_5 {xs : List Int32} : xtI (xTa xs) 185 5 = some (.iload 4, 2) := x_ins (j := 4) kk185 ia185 rfl
theorem i185_7 {xs : List Int32} : xtI (xTa xs) 185 7 = some (.aload_n 0, 1) := x_ins (j := 5) kk185 ia185 rfl
theorem i185_8 {xs : List Int32} : xtI (xTa xs) 185 8 = some (.getfield 47, 3) := x_ins (j := 6) kk185 ia185 rfl
theorem i185_11 {xs : List Int32} : xtI (xTa xs) 185 11 = some (.bipush 40, 2) := x_ins (j := 7) kk185 ia185 rfl
theorem i185_13 {xs : List Int32} : xtI (xTa xs) 185 13 = some (.iaload, 1) := x_ins (j := 8) kk185 ia185 rfl
theorem i185_14 {xs : List Int32} : xtI (xTa xs) 185 14 = some (.if_icmp .ge 113, 3) := x_ins (j := 9) kk185 ia185 rfl
theorem i185_17 {xs : List Int32} : xtI (xTa xs) 185 17 = some (.sipush 960, 3) := x_ins (j := 10) kk185 ia185 rfl
theorem i185_20 {xs : List Int32} : xtI (xTa xs) 185 20 = some (.iload 4, 2) := x_ins (j := 11) kk185 ia185 rfl
theorem i185_22 {xs : List Int32} : xtI (xTa xs) 185 22 = some (.iadd, 1) := x_ins (j := 12) kk185 ia185 rfl
theorem i185_23 {xs : List Int32} : xtI (xTa xs) 185 23 = some (.istore 5, 2) := x_ins (j := 13) kk185 ia185 rfl
theorem i185_25 {xs : List Int32} : xtI (xTa xs) 185 25 = some (.aload_n 0, 1) := x_ins (j := 14) kk185 ia185 rfl
theorem i185_26 {xs : List Int32} : xtI (xTa xs) 185 26 = some (.getfield 53, 3) := x_ins (j := 15) kk185 ia185 rfl
theorem i185_29 {xs : List Int32} : xtI (xTa xs) 185 29 = some (.iload 5, 2) := x_ins (j := 16) kk185 ia185 rfl
theorem i185_31 {xs : List Int32} : xtI (xTa xs) 185 31 = some (.iaload, 1) := x_ins (j := 17) kk185 ia185 rfl
theorem i185_32 {xs : List Int32} : xtI (xTa xs) 185 32 = some (.iconst 2, 1) := x_ins (j := 18) kk185 ia185 rfl
theorem i185_33 {xs : List Int32} : xtI (xTa xs) 185 33 = some (.if_icmp .ne 18, 3) := x_ins (j := 19) kk185 ia185 rfl
theorem i185_36 {xs : List Int32} : xtI (xTa xs) 185 36 = some (.aload_n 0, 1) := x_ins (j := 20) kk185 ia185 rfl
theorem i185_37 {xs : List Int32} : xtI (xTa xs) 185 37 = some (.getfield 71, 3) := x_ins (j := 21) kk185 ia185 rfl
theorem i185_40 {xs : List Int32} : xtI (xTa xs) 185 40 = some (.iload 5, 2) := x_ins (j := 22) kk185 ia185 rfl
theorem i185_42 {xs : List Int32} : xtI (xTa xs) 185 42 = some (.iaload, 1) := x_ins (j := 23) kk185 ia185 rfl
theorem i185_43 {xs : List Int32} : xtI (xTa xs) 185 43 = some (.iload_n 2, 1) := x_ins (j := 24) kk185 ia185 rfl
theorem i185_44 {xs : List Int32} : xtI (xTa xs) 185 44 = some (.if_icmp .ne 7, 3) := x_ins (j := 25) kk185 ia185 rfl
theorem i185_47 {xs : List Int32} : xtI (xTa xs) 185 47 = some (.iconst 1, 1) := x_ins (j := 26) kk185 ia185 rfl
theorem i185_48 {xs : List Int32} : xtI (xTa xs) 185 48 = some (.goto 4, 3) := x_ins (j := 27) kk185 ia185 rfl
theorem i185_51 {xs : List Int32} : xtI (xTa xs) 185 51 = some (.iconst 0, 1) := x_ins (j := 28) kk185 ia185 rfl
theorem i185_52 {xs : List Int32} : xtI (xTa xs) 185 52 = some (.istore 6, 2) := x_ins (j := 29) kk185 ia185 rfl
theorem i185_54 {xs : List Int32} : xtI (xTa xs) 185 54 = some (.iconst 0, 1) := x_ins (j := 30) kk185 ia185 rfl
theorem i185_55 {xs : List Int32} : xtI (xTa xs) 185 55 = some (.istore 7, 2) := x_ins (j := 31) kk185 ia185 rfl
theorem i185_57 {xs : List Int32} : xtI (xTa xs) 185 57 = some (.iload 7, 2) := x_ins (j := 32) kk185 ia185 rfl
theorem i185_59 {xs : List Int32} : xtI (xTa xs) 185 59 = some (.iload_n 2, 1) := x_ins (j := 33) kk185 ia185 rfl
theorem i185_60 {xs : List Int32} : xtI (xTa xs) 185 60 = some (.if_icmp .ge 46, 3) := x_ins (j := 34) kk185 ia185 rfl
theorem i185_63 {xs : List Int32} : xtI (xTa xs) 185 63 = some (.iload 6, 2) := x_ins (j := 35) kk185 ia185 rfl
theorem i185_65 {xs : List Int32} : xtI (xTa xs) 185 65 = some (.ifCond .eq 41, 3) := x_ins (j := 36) kk185 ia185 rfl
theorem i185_68 {xs : List Int32} : xtI (xTa xs) 185 68 = some (.aload_n 0, 1) := x_ins (j := 37) kk185 ia185 rfl
theorem i185_69 {xs : List Int32} : xtI (xTa xs) 185 69 = some (.aload_n 0, 1) := x_ins (j := 38) kk185 ia185 rfl
theorem i185_70 {xs : List Int32} : xtI (xTa xs) 185 70 = some (.getfield 68, 3) := x_ins (j := 39) kk185 ia185 rfl
theorem i185_73 {xs : List Int32} : xtI (xTa xs) 185 73 = some (.iload 5, 2) := x_ins (j := 40) kk185 ia185 rfl
theorem i185_75 {xs : List Int32} : xtI (xTa xs) 185 75 = some (.iaload, 1) := x_ins (j := 41) kk185 ia185 rfl
theorem i185_76 {xs : List Int32} : xtI (xTa xs) 185 76 = some (.iload 7, 2) := x_ins (j := 42) kk185 ia185 rfl
theorem i185_78 {xs : List Int32} : xtI (xTa xs) 185 78 = some (.iadd, 1) := x_ins (j := 43) kk185 ia185 rfl
theorem i185_79 {xs : List Int32} : xtI (xTa xs) 185 79 = some (.invokevirtual 227, 3) := x_ins (j := 44) kk185 ia185 rfl
theorem i185_82 {xs : List Int32} : xtI (xTa xs) 185 82 = some (.aload_n 0, 1) := x_ins (j := 45) kk185 ia185 rfl
theorem i185_83 {xs : List Int32} : xtI (xTa xs) 185 83 = some (.iload_n 1, 1) := x_ins (j := 46) kk185 ia185 rfl
theorem i185_84 {xs : List Int32} : xtI (xTa xs) 185 84 = some (.iload 7, 2) := x_ins (j := 47) kk185 ia185 rfl
theorem i185_86 {xs : List Int32} : xtI (xTa xs) 185 86 = some (.iadd, 1) := x_ins (j := 48) kk185 ia185 rfl
theorem i185_87 {xs : List Int32} : xtI (xTa xs) 185 87 = some (.invokevirtual 227, 3) := x_ins (j := 49) kk185 ia185 rfl
theorem i185_90 {xs : List Int32} : xtI (xTa xs) 185 90 = some (.if_icmp .ne 7, 3) := x_ins (j := 50) kk185 ia185 rfl
theorem i185_93 {xs : List Int32} : xtI (xTa xs) 185 93 = some (.iconst 1, 1) := x_ins (j := 51) kk185 ia185 rfl
theorem i185_94 {xs : List Int32} : xtI (xTa xs) 185 94 = some (.goto 4, 3) := x_ins (j := 52) kk185 ia185 rfl
theorem i185_97 {xs : List Int32} : xtI (xTa xs) 185 97 = some (.iconst 0, 1) := x_ins (j := 53) kk185 ia185 rfl
theorem i185_98 {xs : List Int32} : xtI (xTa xs) 185 98 = some (.istore 6, 2) := x_ins (j := 54) kk185 ia185 rfl
theorem i185_100 {xs : List Int32} : xtI (xTa xs) 185 100 = some (.iinc 7 1, 3) := x_ins (j := 55) kk185 ia185 rfl
theorem i185_103 {xs : List Int32} : xtI (xTa xs) 185 103 = some (.goto (-46), 3) := x_ins (j := 56) kk185 ia185 rfl
theorem i185_106 {xs : List Int32} : xtI (xTa xs) 185 106 = some (.iload_n 3, 1) := x_ins (j := 57) kk185 ia185 rfl
theorem i185_107 {xs : List Int32} : xtI (xTa xs) 185 107 = some (.ifCond .ne 8, 3) := x_ins (j := 58) kk185 ia185 rfl
theorem i185_110 {xs : List Int32} : xtI (xTa xs) 185 110 = some (.iload 6, 2) := x_ins (j := 59) kk185 ia185 rfl
theorem i185_112 {xs : List Int32} : xtI (xTa xs) 185 112 = some (.ifCond .eq 7, 3) := x_ins (j := 60) kk185 ia185 rfl
theorem i185_115 {xs : List Int32} : xtI (xTa xs) 185 115 = some (.iconst 1, 1) := x_ins (j := 61) kk185 ia185 rfl
theorem i185_116 {xs : List Int32} : xtI (xTa xs) 185 116 = some (.goto 4, 3) := x_ins (j := 62) kk185 ia185 rfl
theorem i185_119 {xs : List Int32} : xtI (xTa xs) 185 119 = some (.iconst 0, 1) := x_ins (j := 63) kk185 ia185 rfl
theorem i185_120 {xs : List Int32} : xtI (xTa xs) 185 120 = some (.istore_n 3, 1) := x_ins (j := 64) kk185 ia185 rfl
theorem i185_121 {xs : List Int32} : xtI (xTa xs) 185 121 = some (.iinc 4 1, 3) := x_ins (j := 65) kk185 ia185 rfl
theorem i185_124 {xs : List Int32} : xtI (xTa xs) 185 124 = some (.goto (-119), 3) := x_ins (j := 66) kk185 ia185 rfl
theorem i185_127 {xs : List Int32} : xtI (xTa xs) 185 127 = some (.iload_n 3, 1) := x_ins (j := 67) kk185 ia185 rfl
theorem i185_128 {xs : List Int32} : xtI (xTa xs) 185 128 = some (.ireturn, 1) := x_ins (j := 68) kk185 ia185 rfl
theorem kk186 : xK0.getD 186 [] = k186 := rfl
set_option maxRecDepth 100000 in
theorem ia186 : (k186.all fun e => decide (k186.lookup e.1 = some e.2)) = true := by decide +kernel
theorem i186_0 {xs : List Int32} : xtI (xTa xs) 186 0 = some (.iload_n 3, 1) := x_ins (j := 0) kk186 ia186 rfl
theorem i186_1 {xs : List Int32} : xtI (xTa xs) 186 1 = some (.iload_n 2, 1) := x_ins (j := 1) kk186 ia186 rfl
theorem i186_2 {xs : List Int32} : xtI (xTa xs) 186 2 = some (.isub, 1) := x_ins (j := 2) kk186 ia186 rfl
theorem i186_3 {xs : List Int32} : xtI (xTa xs) 186 3 = some (.istore 4, 2) := x_ins (j := 3) kk186 ia186 rfl
theorem i186_5 {xs : List Int32} : xtI (xTa xs) 186 5 = some (.iload_n 1, 1) := x_ins (j := 4) kk186 ia186 rfl
theorem i186_6 {xs : List Int32} : xtI (xTa xs) 186 6 = some (.iconst 2, 1) := x_ins (j := 5) kk186 ia186 rfl
theorem i186_7 {xs : List Int32} : xtI (xTa xs) 186 7 = some (.if_icmp .ne 36, 3) := x_ins (j := 6) kk186 ia186 rfl
theorem i186_10 {xs : List Int32} : xtI (xTa xs) 186 10 = some (.iload 4, 2) := x_ins (j := 7) kk186 ia186 rfl
theorem i186_12 {xs : List Int32} : xtI (xTa xs) 186 12 = some (.ifCond .le 29, 3) := x_ins (j := 8) kk186 ia186 rfl
theorem i186_15 {xs : List Int32} : xtI (xTa xs) 186 15 = some (.aload_n 0, 1) := x_ins (j := 9) kk186 ia186 rfl
theorem i186_16 {xs : List Int32} : xtI (xTa xs) 186 16 = some (.getfield 41, 3) := x_ins (j := 10) kk186 ia186 rfl
theorem i186_19 {xs : List Int32} : xtI (xTa xs) 186 19 = some (.sipush 24000, 3) := x_ins (j := 11) kk186 ia186 rfl
theorem i186_22 {xs : List Int32} : xtI (xTa xs) 186 22 = some (.iload_n 2, 1) := x_ins (j := 12) kk186 ia186 rfl
theorem i186_23 {xs : List Int32} : xtI (xTa xs) 186 23 = some (.iadd, 1) := x_ins (j := 13) kk186 ia186 rfl
theorem i186_24 {xs : List Int32} : xtI (xTa xs) 186 24 = some (.sipush 24000, 3) := x_ins (j := 14) kk186 ia186 rfl
theorem i186_27 {xs : List Int32} : xtI (xTa xs) 186 27 = some (.iload_n 3, 1) := x_ins (j := 15) kk186 ia186 rfl
theorem i186_28 {xs : List Int32} : xtI (xTa xs) 186 28 = some (.iadd, 1) := x_ins (j := 16) kk186 ia186 rfl
theorem i186_29 {xs : List Int32} : xtI (xTa xs) 186 29 = some (.invokestatic 205, 3) := x_ins (j := 17) kk186 ia186 rfl
theorem i186_32 {xs : List Int32} : xtI (xTa xs) 186 32 = some (.iload 4, 2) := x_ins (j := 18) kk186 ia186 rfl
theorem i186_34 {xs : List Int32} : xtI (xTa xs) 186 34 = some (.if_icmp .ne 7, 3) := x_ins (j := 19) kk186 ia186 rfl
theorem i186_37 {xs : List Int32} : xtI (xTa xs) 186 37 = some (.iconst 1, 1) := x_ins (j := 20) kk186 ia186 rfl
theorem i186_38 {xs : List Int32} : xtI (xTa xs) 186 38 = some (.goto 4, 3) := x_ins (j := 21) kk186 ia186 rfl
theorem i186_41 {xs : List Int32} : xtI (xTa xs) 186 41 = some (.iconst 0, 1) := x_ins (j := 22) kk186 ia186 rfl
theorem i186_42 {xs : List Int32} : xtI (xTa xs) 186 42 = some (.ireturn, 1) := x_ins (j := 23) kk186 ia186 rfl
theorem i186_43 {xs : List Int32} : xtI (xTa xs) 186 43 = some (.iload_n 1, 1) := x_ins (j := 24) kk186 ia186 rfl
theorem i186_44 {xs : List Int32} : xtI (xTa xs) 186 44 = some (.bipush 6, 2) := x_ins (j := 25) kk186 ia186 rfl
theorem i186_46 {xs : List Int32} : xtI (xTa xs) 186 46 = some (.if_icmp .eq 36, 3) := x_ins (j := 26) kk186 ia186 rfl
theorem i186_49 {xs : List Int32} : xtI (xTa xs) 186 49 = some (.iload 4, 2) := x_ins (j := 27) kk186 ia186 rfl
theorem i186_51 {xs : List Int32} : xtI (xTa xs) 186 51 = some (.ifCond .le 29, 3) := x_ins (j := 28) kk186 ia186 rfl
theorem i186_54 {xs : List Int32} : xtI (xTa xs) 186 54 = some (.aload_n 0, 1) := x_ins (j := 29) kk186 ia186 rfl
theorem i186_55 {xs : List Int32} : xtI (xTa xs) 186 55 = some (.getfield 41, 3) := x_ins (j := 30) kk186 ia186 rfl
theorem i186_58 {xs : List Int32} : xtI (xTa xs) 186 58 = some (.sipush 24000, 3) := x_ins (j := 31) kk186 ia186 rfl
theorem i186_61 {xs : List Int32} : xtI (xTa xs) 186 61 = some (.iload_n 2, 1) := x_ins (j := 32) kk186 ia186 rfl
theorem i186_62 {xs : List Int32} : xtI (xTa xs) 186 62 = some (.iadd, 1) := x_ins (j := 33) kk186 ia186 rfl
theorem i186_63 {xs : List Int32} : xtI (xTa xs) 186 63 = some (.sipush 24000, 3) := x_ins (j := 34) kk186 ia186 rfl
theorem i186_66 {xs : List Int32} : xtI (xTa xs) 186 66 = some (.iload_n 3, 1) := x_ins (j := 35) kk186 ia186 rfl
theorem i186_67 {xs : List Int32} : xtI (xTa xs) 186 67 = some (.iadd, 1) := x_ins (j := 36) kk186 ia186 rfl
theorem i186_68 {xs : List Int32} : xtI (xTa xs) 186 68 = some (.invokestatic 212, 3) := x_ins (j := 37) kk186 ia186 rfl
theorem i186_71 {xs : List Int32} : xtI (xTa xs) 186 71 = some (.iload 4, 2) := x_ins (j := 38) kk186 ia186 rfl
theorem i186_73 {xs : List Int32} : xtI (xTa xs) 186 73 = some (.if_icmp .ne 7, 3) := x_ins (j := 39) kk186 ia186 rfl
theorem i186_76 {xs : List Int32} : xtI (xTa xs) 186 76 = some (.iconst 1, 1) := x_ins (j := 40) kk186 ia186 rfl
theorem i186_77 {xs : List Int32} : xtI (xTa xs) 186 77 = some (.goto 4, 3) := x_ins (j := 41) kk186 ia186 rfl
theorem i186_80 {xs : List Int32} : xtI (xTa xs) 186 80 = some (.iconst 0, 1) := x_ins (j := 42) kk186 ia186 rfl
theorem i186_81 {xs : List Int32} : xtI (xTa xs) 186 81 = some (.ireturn, 1) := x_ins (j := 43) kk186 ia186 rfl
theorem i186_82 {xs : List Int32} : xtI (xTa xs) 186 82 = some (.iload 4, 2) := x_ins (j := 44) kk186 ia186 rfl
theorem i186_84 {xs : List Int32} : xtI (xTa xs) 186 84 = some (.iconst 1, 1) := x_ins (j := 45) kk186 ia186 rfl
theorem i186_85 {xs : List Int32} : xtI (xTa xs) 186 85 = some (.iconst 4, 1) := x_ins (j := 46) kk186 ia186 rfl
theorem i186_86 {xs : List Int32} : xtI (xTa xs) 186 86 = some (.invokestatic 154, 3) := x_ins (j := 47) kk186 ia186 rfl
theorem i186_89 {xs : List Int32} : xtI (xTa xs) 186 89 = some (.istore 5, 2) := x_ins (j := 48) kk186 ia186 rfl
theorem i186_91 {xs : List Int32} : xtI (xTa xs) 186 91 = some (.iload_n 2, 1) := x_ins (j := 49) kk186 ia186 rfl
theorem i186_92 {xs : List Int32} : xtI (xTa xs) 186 92 = some (.istore 6, 2) := x_ins (j := 50) kk186 ia186 rfl
theorem i186_94 {xs : List Int32} : xtI (xTa xs) 186 94 = some (.iload 6, 2) := x_ins (j := 51) kk186 ia186 rfl
theorem i186_96 {xs : List Int32} : xtI (xTa xs) 186 96 = some (.iload_n 3, 1) := x_ins (j := 52) kk186 ia186 rfl
theorem i186_97 {xs : List Int32} : xtI (xTa xs) 186 97 = some (.if_icmp .ge 25, 3) := x_ins (j := 53) kk186 ia186 rfl
theorem i186_100 {xs : List Int32} : xtI (xTa xs) 186 100 = some (.iload 5, 2) := x_ins (j := 54) kk186 ia186 rfl
theorem i186_102 {xs : List Int32} : xtI (xTa xs) 186 102 = some (.ifCond .eq 20, 3) := x_ins (j := 55) kk186 ia186 rfl
theorem i186_105 {xs : List Int32} : xtI (xTa xs) 186 105 = some (.aload_n 0, 1) := x_ins (j := 56) kk186 ia186 rfl
theorem i186_106 {xs : List Int32} : xtI (xTa xs) 186 106 = some (.iload 6, 2) := x_ins (j := 57) kk186 ia186 rfl
theorem i186_108 {xs : List Int32} : xtI (xTa xs) 186 108 = some (.invokevirtual 227, 3) := x_ins (j := 58) kk186 ia186 rfl
theorem i186_111 {xs : List Int32} : xtI (xTa xs) 186 111 = some (.invokestatic 171, 3) := x_ins (j := 59) kk186 ia186 rfl
theorem i186_114 {xs : List Int32} : xtI (xTa xs) 186 114 = some (.istore 5, 2) := x_ins (j := 60) kk186 ia186 rfl
theorem i186_116 {xs : List Int32} : xtI (xTa xs) 186 116 = some (.iinc 6 1, 3) := x_ins (j := 61) kk186 ia186 rfl
theorem i186_119 {xs : List Int32} : xtI (xTa xs) 186 119 = some (.goto (-25), 3) := x_ins (j := 62) kk186 ia186 rfl
theorem i186_122 {xs : List Int32} : xtI (xTa xs) 186 122 = some (.iload 5, 2) := x_ins (j := 63) kk186 ia186 rfl
theorem i186_124 {xs : List Int32} : xtI (xTa xs) 186 124 = some (.ireturn, 1) := x_ins (j := 64) kk186 ia186 rfl
theorem kk187 : xK0.getD 187 [] = k187 := rfl
set_option maxRecDepth 100000 in
theorem ia187 : (k187.all fun e => decide (k187.lookup e.1 = some e.2)) = true := by decide +kernel
theorem i187_0 {xs : List Int32} : xtI (xTa xs) 187 0 = some (.aload_n 0, 1) := x_ins (j := 0) kk187 ia187 rfl
theorem i187_1 {xs : List Int32} : xtI (xTa xs) 187 1 = some (.iload_n 1, 1) := x_ins (j := 1) kk187 ia187 rfl
theorem i187_2 {xs : List Int32} : xtI (xTa xs) 187 2 = some (.invokevirtual 329, 3) := x_ins (j := 2) kk187 ia187 rfl
theorem i187_5 {xs : List Int32} : xtI (xTa xs) 187 5 = some (.istore_n 2, 1) := x_ins (j := 3) kk187 ia187 rfl
theorem i187_6 {xs : List Int32} : xtI (xTa xs) 187 6 = some (.aload_n 0, 1) := x_ins (j := 4) kk187 ia187 rfl
theorem i187_7 {xs : List Int32} : xtI (xTa xs) 187 7 = some (.iload_n 1, 1) := x_ins (j := 5) kk187 ia187 rfl
theorem i187_8 {xs : List Int32} : xtI (xTa xs) 187 8 = some (.iload_n 2, 1) := x_ins (j := 6) kk187 ia187 rfl
theorem i187_9 {xs : List Int32} : xtI (xTa xs) 187 9 = some (.invokevirtual 332, 3) := x_ins (j := 7) kk187 ia187 rfl
theorem i187_12 {xs : List Int32} : xtI (xTa xs) 187 12 = some (.istore_n 3, 1) := x_ins (j := 8) kk187 ia187 rfl
theorem i187_13 {xs : List Int32} : xtI (xTa xs) 187 13 = some (.iload_n 3, 1) := x_ins (j := 9) kk187 ia187 rfl
theorem i187_14 {xs : List Int32} : xtI (xTa xs) 187 14 = some (.iconst (-1), 1) := x_ins (j := 10) kk187 ia187 rfl
theorem i187_15 {xs : List Int32} : xtI (xTa xs) 187 15 = some (.if_icmp .ne 10, 3) := x_ins (j := 11) kk187 ia187 rfl
theorem i187_18 {xs : List Int32} : xtI (xTa xs) 187 18 = some (.aload_n 0, 1) := x_ins (j := 12) kk187 ia187 rfl
theorem i187_19 {xs : List Int32} : xtI (xTa xs) 187 19 = some (.iconst 2, 1) := x_ins (j := 13) kk187 ia187 rfl
theorem i187_20 {xs : List Int32} : xtI (xTa xs) 187 20 = some (.iload_n 1, 1) := x_ins (j := 14) kk187 ia187 rfl
theorem i187_21 {xs : List Int32} : xtI (xTa xs) 187 21 = some (.invokevirtual 267, 3) := x_ins (j := 15) kk187 ia187 rfl
theorem i187_24 {xs : List Int32} : xtI (xTa xs) 187 24 = some (.return_, 1) := x_ins (j := 16) kk187 ia187 rfl
theorem i187_25 {xs : List Int32} : xtI (xTa xs) 187 25 = some (.aload_n 0, 1) := x_ins (j := 17) kk187 ia187 rfl
theorem i187_26 {xs : List Int32} : xtI (xTa xs) 187 26 = some (.getfield 47, 3) := x_ins (j := 18) kk187 ia187 rfl
theorem i187_29 {xs : List Int32} : xtI (xTa xs) 187 29 = some (.bipush 40, 2) := x_ins (j := 19) kk187 ia187 rfl
theorem i187_31 {xs : List Int32} : xtI (xTa xs) 187 31 = some (.iaload, 1) := x_ins (j := 20) kk187 ia187 rfl
theorem i187_32 {xs : List Int32} : xtI (xTa xs) 187 32 = some (.bipush 24, 2) := x_ins (j := 21) kk187 ia187 rfl
theorem i187_34 {xs : List Int32} : xtI (xTa xs) 187 34 = some (.if_icmp .ne 10, 3) := x_ins (j := 22) kk187 ia187 rfl
theorem i187_37 {xs : List Int32} : xtI (xTa xs) 187 37 = some (.aload_n 0, 1) := x_ins (j := 23) kk187 ia187 rfl
theorem i187_38 {xs : List Int32} : xtI (xTa xs) 187 38 = some (.iconst 4, 1) := x_ins (j := 24) kk187 ia187 rfl
theorem i187_39 {xs : List Int32} : xtI (xTa xs) 187 39 = some (.iload_n 1, 1) := x_ins (j := 25) kk187 ia187 rfl
theorem i187_40 {xs : List Int32} : xtI (xTa xs) 187 40 = some (.invokevirtual 267, 3) := x_ins (j := 26) kk187 ia187 rfl
theorem i187_43 {xs : List Int32} : xtI (xTa xs) 187 43 = some (.return_, 1) := x_ins (j := 27) kk187 ia187 rfl
theorem i187_44 {xs : List Int32} : xtI (xTa xs) 187 44 = some (.iload_n 3, 1) := x_ins (j := 28) kk187 ia187 rfl
theorem i187_45 {xs : List Int32} : xtI (xTa xs) 187 45 = some (.iconst 3, 1) := x_ins (j := 29) kk187 ia187 rfl
theorem i187_46 {xs : List Int32} : xtI (xTa xs) 187 46 = some (.if_icmp .eq 9, 3) := x_ins (j := 30) kk187 ia187 rfl
theorem i187_49 {xs : List Int32} : xtI (xTa xs) 187 49 = some (.iload_n 3, 1) := x_ins (j := 31) kk187 ia187 rfl
theorem i187_50 {xs : List Int32} : xtI (xTa xs) 187 50 = some (.bipush 6, 2) := x_ins (j := 32) kk187 ia187 rfl
theorem i187_52 {xs : List Int32} : xtI (xTa xs) 187 52 = some (.if_icmp .ne 18, 3) := x_ins (j := 33) kk187 ia187 rfl
theorem i187_55 {xs : List Int32} : xtI (xTa xs) 187 55 = some (.aload_n 0, 1) := x_ins (j := 34) kk187 ia187 rfl
theorem i187_56 {xs : List Int32} : xtI (xTa xs) 187 56 = some (.iload_n 3, 1) := x_ins (j := 35) kk187 ia187 rfl
theorem i187_57 {xs : List Int32} : xtI (xTa xs) 187 57 = some (.invokevirtual 335, 3) := x_ins (j := 36) kk187 ia187 rfl
theorem i187_60 {xs : List Int32} : xtI (xTa xs) 187 60 = some (.ifCond .eq 10, 3) := x_ins (j := 37) kk187 ia187 rfl
theorem i187_63 {xs : List Int32} : xtI (xTa xs) 187 63 = some (.aload_n 0, 1) := x_ins (j := 38) kk187 ia187 rfl
theorem i187_64 {xs : List Int32} : xtI (xTa xs) 187 64 = some (.iconst 5, 1) := x_ins (j := 39) kk187 ia187 rfl
theorem i187_65 {xs : List Int32} : xtI (xTa xs) 187 65 = some (.iload_n 1, 1) := x_ins (j := 40) kk187 ia187 rfl
theorem i187_66 {xs : List Int32} : xtI (xTa xs) 187 66 = some (.invokevirtual 267, 3) := x_ins (j := 41) kk187 ia187 rfl
theorem i187_69 {xs : List Int32} : xtI (xTa xs) 187 69 = some (.return_, 1) := x_ins (j := 42) kk187 ia187 rfl
theorem i187_70 {xs : List Int32} : xtI (xTa xs) 187 70 = some (.iload_n 2, 1) := x_ins (j := 43) kk187 ia187 rfl
theorem i187_71 {xs : List Int32} : xtI (xTa xs) 187 71 = some (.istore 4, 2) := x_ins (j := 44) kk187 ia187 rfl
theorem i187_73 {xs : List Int32} : xtI (xTa xs) 187 73 = some (.iload_n 3, 1) := x_ins (j := 45) kk187 ia187 rfl
theorem i187_74 {xs : List Int32} : xtI (xTa xs) 187 74 = some (.iconst 3, 1) := x_ins (j := 46) kk187 ia187 rfl
theorem i187_75 {xs : List Int32} : xtI (xTa xs) 187 75 = some (.if_icmp .eq 61, 3) := x_ins (j := 47) kk187 ia187 rfl
theorem i187_78 {xs : List Int32} : xtI (xTa xs) 187 78 = some (.aload_n 0, 1) := x_ins (j := 48) kk187 ia187 rfl
theorem i187_79 {xs : List Int32} : xtI (xTa xs) 187 79 = some (.iload_n 2, 1) := x_ins (j := 49) kk187 ia187 rfl
theorem i187_80 {xs : List Int32} : xtI (xTa xs) 187 80 = some (.invokevirtual 255, 3) := x_ins (j := 50) kk187 ia187 rfl
theorem i187_83 {xs : List Int32} : xtI (xTa xs) 187 83 = some (.istore 4, 2) := x_ins (j := 51) kk187 ia187 rfl
theorem i187_85 {xs : List Int32} : xtI (xTa xs) 187 85 = some (.aload_n 0, 1) := x_ins (j := 52) kk187 ia187 rfl
theorem i187_86 {xs : List Int32} : xtI (xTa xs) 187 86 = some (.iload 4, 2) := x_ins (j := 53) kk187 ia187 rfl
theorem i187_88 {xs : List Int32} : xtI (xTa xs) 187 88 = some (.invokevirtual 329, 3) := x_ins (j := 54) kk187 ia187 rfl
theorem i187_91 {xs : List Int32} : xtI (xTa xs) 187 91 = some (.istore_n 2, 1) := x_ins (j := 55) kk187 ia187 rfl
theorem i187_92 {xs : List Int32} : xtI (xTa xs) 187 92 = some (.aload_n 0, 1) := x_ins (j := 56) kk187 ia187 rfl
theorem i187_93 {xs : List Int32} : xtI (xTa xs) 187 93 = some (.iload_n 3, 1) := x_ins (j := 57) kk187 ia187 rfl
theorem i187_94 {xs : List Int32} : xtI (xTa xs) 187 94 = some (.iload 4, 2) := x_ins (j := 58) kk187 ia187 rfl
theorem i187_96 {xs : List Int32} : xtI (xTa xs) 187 96 = some (.iload_n 2, 1) := x_ins (j := 59) kk187 ia187 rfl
theorem i187_97 {xs : List Int32} : xtI (xTa xs) 187 97 = some (.invokevirtual 338, 3) := x_ins (j := 60) kk187 ia187 rfl
theorem i187_100 {xs : List Int32} : xtI (xTa xs) 187 100 = some (.ifCond .ne 11, 3) := x_ins (j := 61) kk187 ia187 rfl
theorem i187_103 {xs : List Int32} : xtI (xTa xs) 187 103 = some (.aload_n 0, 1) := x_ins (j := 62) kk187 ia187 rfl
theorem i187_104 {xs : List Int32} : xtI (xTa xs) 187 104 = some (.iconst 2, 1) := x_ins (j := 63) kk187 ia187 rfl
theorem i187_105 {xs : List Int32} : xtI (xTa xs) 187 105 = some (.iload 4, 2) := x_ins (j := 64) kk187 ia187 rfl
theorem i187_107 {xs : List Int32} : xtI (xTa xs) 187 107 = some (.invokevirtual 267, 3) := x_ins (j := 65) kk187 ia187 rfl
theorem i187_110 {xs : List Int32} : xtI (xTa xs) 187 110 = some (.return_, 1) := x_ins (j := 66) kk187 ia187 rfl
theorem i187_111 {xs : List Int32} : xtI (xTa xs) 187 111 = some (.iload_n 3, 1) := x_ins (j := 67) kk187 ia187 rfl
theorem i187_112 {xs : List Int32} : xtI (xTa xs) 187 112 = some (.iconst 2, 1) := x_ins (j := 68) kk187 ia187 rfl
theorem i187_113 {xs : List Int32} : xtI (xTa xs) 187 113 = some (.if_icmp .ne 23, 3) := x_ins (j := 69) kk187 ia187 rfl
theorem i187_116 {xs : List Int32} : xtI (xTa xs) 187 116 = some (.aload_n 0, 1) := x_ins (j := 70) kk187 ia187 rfl
theorem i187_117 {xs : List Int32} : xtI (xTa xs) 187 117 = some (.iload 4, 2) := x_ins (j := 71) kk187 ia187 rfl
theorem i187_119 {xs : List Int32} : xtI (xTa xs) 187 119 = some (.iload_n 2, 1) := x_ins (j := 72) kk187 ia187 rfl
theorem i187_120 {xs : List Int32} : xtI (xTa xs) 187 120 = some (.iload 4, 2) := x_ins (j := 73) kk187 ia187 rfl
theorem i187_122 {xs : List Int32} : xtI (xTa xs) 187 122 = some (.isub, 1) := x_ins (j := 74) kk187 ia187 rfl
theorem i187_123 {xs : List Int32} : xtI (xTa xs) 187 123 = some (.invokevirtual 341, 3) := x_ins (j := 75) kk187 ia187 rfl
theorem i187_126 {xs : List Int32} : xtI (xTa xs) 187 126 = some (.ifCond .eq 10, 3) := x_ins (j := 76) kk187 ia187 rfl
theorem i187_129 {xs : List Int32} : xtI (xTa xs) 187 129 = some (.aload_n 0, 1) := x_ins (j := 77) kk187 ia187 rfl
theorem i187_130 {xs : List Int32} : xtI (xTa xs) 187 130 = some (.iconst 5, 1) := x_ins (j := 78) kk187 ia187 rfl
theorem i187_131 {xs : List Int32} : xtI (xTa xs) 187 131 = some (.iload_n 1, 1) := x_ins (j := 79) kk187 ia187 rfl
theorem i187_132 {xs : List Int32} : xtI (xTa xs) 187 132 = some (.invokevirtual 267, 3) := x_ins (j := 80) kk187 ia187 rfl
theorem i187_135 {xs : List Int32} : xtI (xTa xs) 187 135 = some (.return_, 1) := x_ins (j := 81) kk187 ia187 rfl
theorem i187_136 {xs : List Int32} : xtI (xTa xs) 187 136 = some (.aload_n 0, 1) := x_ins (j := 82) kk187 ia187 rfl
theorem i187_137 {xs : List Int32} : xtI (xTa xs) 187 137 = some (.iconst 1, 1) := x_ins (j := 83) kk187 ia187 rfl
theorem i187_138 {xs : List Int32} : xtI (xTa xs) 187 138 = some (.putfield 278, 3) := x_ins (j := 84) kk187 ia187 rfl
theorem i187_141 {xs : List Int32} : xtI (xTa xs) 187 141 = some (.aload_n 0, 1) := x_ins (j := 85) kk187 ia187 rfl
theorem i187_142 {xs : List Int32} : xtI (xTa xs) 187 142 = some (.iload_n 3, 1) := x_ins (j := 86) kk187 ia187 rfl
theorem i187_143 {xs : List Int32} : xtI (xTa xs) 187 143 = some (.iconst 0, 1) := x_ins (j := 87) kk187 ia187 rfl
theorem i187_144 {xs : List Int32} : xtI (xTa xs) 187 144 = some (.iload_n 1, 1) := x_ins (j := 88) kk187 ia187 rfl
theorem i187_145 {xs : List Int32} : xtI (xTa xs) 187 145 = some (.invokevirtual 301, 3) := x_ins (j := 89) kk187 ia187 rfl
theorem i187_148 {xs : List Int32} : xtI (xTa xs) 187 148 = some (.aload_n 0, 1) := x_ins (j := 90) kk187 ia187 rfl
theorem i187_149 {xs : List Int32} : xtI (xTa xs) 187 149 = some (.getfield 68, 3) := x_ins (j := 91) kk187 ia187 rfl
theorem i187_152 {xs : List Int32} : xtI (xTa xs) 187 152 = some (.aload_n 0, 1) := x_ins (j := 92) kk187 ia187 rfl
theorem i187_153 {xs : List Int32} : xtI (xTa xs) 187 153 = some (.invokevirtual 274, 3) := x_ins (j := 93) kk187 ia187 rfl
theorem i187_156 {xs : List Int32} : xtI (xTa xs) 187 156 = some (.iload 4, 2) := x_ins (j := 94) kk187 ia187 rfl
theorem i187_158 {xs : List Int32} : xtI (xTa xs) 187 158 = some (.iastore, 1) := x_ins (j := 95) kk187 ia187 rfl
theorem i187_159 {xs : List Int32} : xtI (xTa xs) 187 159 = some (.aload_n 0, 1) := x_ins (j := 96) kk187 ia187 rfl
theorem i187_160 {xs : List Int32} : xtI (xTa xs) 187 160 = some (.getfield 71, 3) := x_ins (j := 97) kk187 ia187 rfl
theorem i187_163 {xs : List Int32} : xtI (xTa xs) 187 163 = some (.aload_n 0, 1) := x_ins (j := 98) kk187 ia187 rfl
theorem i187_164 {xs : List Int32} : xtI (xTa xs) 187 164 = some (.invokevirtual 274, 3) := x_ins (j := 99) kk187 ia187 rfl
theorem i187_167 {xs : List Int32} : xtI (xTa xs) 187 167 = some (.iload_n 2, 1) := x_ins (j := 100) kk187 ia187 rfl
theorem i187_168 {xs : List Int32} : xtI (xTa xs) 187 168 = some (.iload 4, 2) := x_ins (j := 101) kk187 ia187 rfl
theorem i187_170 {xs : List Int32} : xtI (xTa xs) 187 170 = some (.isub, 1) := x_ins (j := 102) kk187 ia187 rfl
theorem i187_171 {xs : List Int32} : xtI (xTa xs) 187 171 = some (.iastore, 1) := x_ins (j := 103) kk187 ia187 rfl
theorem i187_172 {xs : List Int32} : xtI (xTa xs) 187 172 = some (.iload_n 3, 1) := x_ins (j := 104) kk187 ia187 rfl
theorem i187_173 {xs : List Int32} : xtI (xTa xs) 187 173 = some (.iconst 5, 1) := x_ins (j := 105) kk187 ia187 rfl
theorem i187_174 {xs : List Int32} : xtI (xTa xs) 187 174 = some (.if_icmp .eq 9, 3) := x_ins (j := 106) kk187 ia187 rfl
theorem i187_177 {xs : List Int32} : xtI (xTa xs) 187 177 = some (.iload_n 3, 1) := x_ins (j := 107) kk187 ia187 rfl
theorem i187_178 {xs : List Int32} : xtI (xTa xs) 187 178 = some (.bipush 6, 2) := x_ins (j := 108) kk187 ia187 rfl
theorem i187_180 {xs : List Int32} : xtI (xTa xs) 187 180 = some (.if_icmp .ne 29, 3) := x_ins (j := 109) kk187 ia187 rfl
theorem i187_183 {xs : List Int32} : xtI (xTa xs) 187 183 = some (.aload_n 0, 1) := x_ins (j := 110) kk187 ia187 rfl
theorem i187_184 {xs : List Int32} : xtI (xTa xs) 187 184 = some (.iload_n 2, 1) := x_ins (j := 111) kk187 ia187 rfl
theorem i187_185 {xs : List Int32} : xtI (xTa xs) 187 185 = some (.invokevirtual 255, 3) := x_ins (j := 112) kk187 ia187 rfl
theorem i187_188 {xs : List Int32} : xtI (xTa xs) 187 188 = some (.istore 5, 2) := x_ins (j := 113) kk187 ia187 rfl
theorem i187_190 {xs : List Int32} : xtI (xTa xs) 187 190 = some (.iload 5, 2) := x_ins (j := 114) kk187 ia187 rfl
theorem i187_192 {xs : List Int32} : xtI (xTa xs) 187 192 = some (.aload_n 0, 1) := x_ins (j := 115) kk187 ia187 rfl
theorem i187_193 {xs : List Int32} : xtI (xTa xs) 187 193 = some (.getfield 224, 3) := x_ins (j := 116) kk187 ia187 rfl
theorem i187_196 {xs : List Int32} : xtI (xTa xs) 187 196 = some (.if_icmp .ge 10, 3) := x_ins (j := 117) kk187 ia187 rfl
theorem i187_199 {xs : List Int32} : xtI (xTa xs) 187 199 = some (.aload_n 0, 1) := x_ins (j := 118) kk187 ia187 rfl
theorem i187_200 {xs : List Int32} : xtI (xTa xs) 187 200 = some (.iconst 2, 1) := x_ins (j := 119) kk187 ia187 rfl
theorem i187_201 {xs : List Int32} : xtI (xTa xs) 187 201 = some (.iload 5, 2) := x_ins (j := 120) kk187 ia187 rfl
theorem i187_203 {xs : List Int32} : xtI (xTa xs) 187 203 = some (.invokevirtual 267, 3) := x_ins (j := 121) kk187 ia187 rfl
theorem i187_206 {xs : List Int32} : xtI (xTa xs) 187 206 = some (.goto 8, 3) := x_ins (j := 122) kk187 ia187 rfl
theorem i187_209 {xs : List Int32} : xtI (xTa xs) 187 209 = some (.aload_n 0, 1) := x_ins (j := 123) kk187 ia187 rfl
theorem i187_210 {xs : List Int32} : xtI (xTa xs) 187 210 = some (.iload_n 2, 1) := x_ins (j := 124) kk187 ia187 rfl
theorem i187_211 {xs : List Int32} : xtI (xTa xs) 187 211 = some (.invokevirtual 305, 3) := x_ins (j := 125) kk187 ia187 rfl
theorem i187_214 {xs : List Int32} : xtI (xTa xs) 187 214 = some (.return_, 1) := x_ins (j := 126) kk187 ia187 rfl
theorem kk188 : xK0.getD 188 [] = k188 := rfl
set_option maxRecDepth 100000 in
theorem ia188 : (k188.all fun e => decide (k188.lookup e.1 = some e.2)) = true := by decide +kernel
theorem i188_0 {xs : List Int32} : xtI (xTa xs) 188 0 = some (.aload_n 0, 1) := x_ins (j := 0) kk188 ia188 rfl
theorem i188_1 {xs : List Int32} : xtI (xTa xs) 188 1 = some (.getfield 44, 3) := x_ins (j := 1) kk188 ia188 rfl
theorem i188_4 {xs : List Int32} : xtI (xTa xs) 188 4 = some (.iload_n 1, 1) := x_ins (j := 2) kk188 ia188 rfl
theorem i188_5 {xs : List Int32} : xtI (xTa xs) 188 5 = some (.iload_n 2, 1) := x_ins (j := 3) kk188 ia188 rfl
theorem i188_6 {xs : List Int32} : xtI (xTa xs) 188 6 = some (.iastore, 1) := x_ins (j := 4) kk188 ia188 rfl
theorem i188_7 {xs : List Int32} : xtI (xTa xs) 188 7 = some (.aload_n 0, 1) := x_ins (j := 5) kk188 ia188 rfl
theorem i188_8 {xs : List Int32} : xtI (xTa xs) 188 8 = some (.getfield 47, 3) := x_ins (j := 6) kk188 ia188 rfl
theorem i188_11 {xs : List Int32} : xtI (xTa xs) 188 11 = some (.iload_n 1, 1) := x_ins (j := 7) kk188 ia188 rfl
theorem i188_12 {xs : List Int32} : xtI (xTa xs) 188 12 = some (.aload_n 0, 1) := x_ins (j := 8) kk188 ia188 rfl
theorem i188_13 {xs : List Int32} : xtI (xTa xs) 188 13 = some (.getfield 47, 3) := x_ins (j := 9) kk188 ia188 rfl
theorem i188_16 {xs : List Int32} : xtI (xTa xs) 188 16 = some (.bipush 40, 2) := x_ins (j := 10) kk188 ia188 rfl
theorem i188_18 {xs : List Int32} : xtI (xTa xs) 188 18 = some (.iaload, 1) := x_ins (j := 11) kk188 ia188 rfl
theorem i188_19 {xs : List Int32} : xtI (xTa xs) 188 19 = some (.iastore, 1) := x_ins (j := 12) kk188 ia188 rfl
theorem i188_20 {xs : List Int32} : xtI (xTa xs) 188 20 = some (.aload_n 0, 1) := x_ins (j := 13) kk188 ia188 rfl
theorem i188_21 {xs : List Int32} : xtI (xTa xs) 188 21 = some (.getfield 50, 3) := x_ins (j := 14) kk188 ia188 rfl
theorem i188_24 {xs : List Int32} : xtI (xTa xs) 188 24 = some (.iload_n 1, 1) := x_ins (j := 15) kk188 ia188 rfl
theorem i188_25 {xs : List Int32} : xtI (xTa xs) 188 25 = some (.aload_n 0, 1) := x_ins (j := 16) kk188 ia188 rfl
theorem i188_26 {xs : List Int32} : xtI (xTa xs) 188 26 = some (.getfield 50, 3) := x_ins (j := 17) kk188 ia188 rfl
theorem i188_29 {xs : List Int32} : xtI (xTa xs) 188 29 = some (.bipush 40, 2) := x_ins (j := 18) kk188 ia188 rfl
theorem i188_31 {xs : List Int32} : xtI (xTa xs) 188 31 = some (.iaload, 1) := x_ins (j := 19) kk188 ia188 rfl
theorem i188_32 {xs : List Int32} : xtI (xTa xs) 188 32 = some (.iastore, 1) := x_ins (j := 20) kk188 ia188 rfl
theorem i188_33 {xs : List Int32} : xtI (xTa xs) 188 33 = some (.iconst 0, 1) := x_ins (j := 21) kk188 ia188 rfl
theorem i188_34 {xs : List Int32} : xtI (xTa xs) 188 34 = some (.istore_n 3, 1) := x_ins (j := 22) kk188 ia188 rfl
theorem i188_35 {xs : List Int32} : xtI (xTa xs) 188 35 = some (.iload_n 3, 1) := x_ins (j := 23) kk188 ia188 rfl
theorem i188_36 {xs : List Int32} : xtI (xTa xs) 188 36 = some (.iload_n 2, 1) := x_ins (j := 24) kk188 ia188 rfl
theorem i188_37 {xs : List Int32} : xtI (xTa xs) 188 37 = some (.if_icmp .ge 31, 3) := x_ins (j := 25) kk188 ia188 rfl
theorem i188_40 {xs : List Int32} : xtI (xTa xs) 188 40 = some (.aload_n 0, 1) := x_ins (j := 26) kk188 ia188 rfl
theorem i188_41 {xs : List Int32} : xtI (xTa xs) 188 41 = some (.getfield 41, 3) := x_ins (j := 27) kk188 ia188 rfl
theorem i188_44 {xs : List Int32} : xtI (xTa xs) 188 44 = some (.sipush 600, 3) := x_ins (j := 28) kk188 ia188 rfl
theorem i188_47 {xs : List Int32} : xtI (xTa xs) 188 47 = some (.iload_n 1, 1) := x_ins (j := 29) kk188 ia188 rfl
theorem i188_48 {xs : List Int32} : xtI (xTa xs) 188 48 = some (.imul, 1) := x_ins (j := 30) kk188 ia188 rfl
theorem i188_49 {xs : List Int32} : xtI (xTa xs) 188 49 = some (.iload_n 3, 1) := x_ins (j := 31) kk188 ia188 rfl
theorem i188_50 {xs : List Int32} : xtI (xTa xs) 188 50 = some (.iadd, 1) := x_ins (j := 32) kk188 ia188 rfl
theorem i188_51 {xs : List Int32} : xtI (xTa xs) 188 51 = some (.aload_n 0, 1) := x_ins (j := 33) kk188 ia188 rfl
theorem i188_52 {xs : List Int32} : xtI (xTa xs) 188 52 = some (.getfield 41, 3) := x_ins (j := 34) kk188 ia188 rfl
theorem i188_55 {xs : List Int32} : xtI (xTa xs) 188 55 = some (.sipush 24000, 3) := x_ins (j := 35) kk188 ia188 rfl
theorem i188_58 {xs : List Int32} : xtI (xTa xs) 188 58 = some (.iload_n 3, 1) := x_ins (j := 36) kk188 ia188 rfl
theorem i188_59 {xs : List Int32} : xtI (xTa xs) 188 59 = some (.iadd, 1) := x_ins (j := 37) kk188 ia188 rfl
theorem i188_60 {xs : List Int32} : xtI (xTa xs) 188 60 = some (.iaload, 1) := x_ins (j := 38) kk188 ia188 rfl
theorem i188_61 {xs : List Int32} : xtI (xTa xs) 188 61 = some (.iastore, 1) := x_ins (j := 39) kk188 ia188 rfl
theorem i188_62 {xs : List Int32} : xtI (xTa xs) 188 62 = some (.iinc 3 1, 3) := x_ins (j := 40) kk188 ia188 rfl
theorem i188_65 {xs : List Int32} : xtI (xTa xs) 188 65 = some (.goto (-30), 3) := x_ins (j := 41) kk188 ia188 rfl
theorem i188_68 {xs : List Int32} : xtI (xTa xs) 188 68 = some (.iconst 0, 1) := x_ins (j := 42) kk188 ia188 rfl
theorem i188_69 {xs : List Int32} : xtI (xTa xs) 188 69 = some (.istore_n 3, 1) := x_ins (j := 43) kk188 ia188 rfl
theorem i188_70 {xs : List Int32} : xtI (xTa xs) 188 70 = some (.iload_n 3, 1) := x_ins (j := 44) kk188 ia188 rfl
theorem i188_71 {xs : List Int32} : xtI (xTa xs) 188 71 = some (.aload_n 0, 1) := x_ins (j := 45) kk188 ia188 rfl
theorem i188_72 {xs : List Int32} : xtI (xTa xs) 188 72 = some (.getfield 47, 3) := x_ins (j := 46) kk188 ia188 rfl
theorem i188_75 {xs : List Int32} : xtI (xTa xs) 188 75 = some (.iload_n 1, 1) := x_ins (j := 47) kk188 ia188 rfl
theorem i188_76 {xs : List Int32} : xtI (xTa xs) 188 76 = some (.iaload, 1) := x_ins (j := 48) kk188 ia188 rfl
theorem i188_77 {xs : List Int32} : xtI (xTa xs) 188 77 = some (.if_icmp .ge 136, 3) := x_ins (j := 49) kk188 ia188 rfl
theorem i188_80 {xs : List Int32} : xtI (xTa xs) 188 80 = some (.bipush 24, 2) := x_ins (j := 50) kk188 ia188 rfl
theorem i188_82 {xs : List Int32} : xtI (xTa xs) 188 82 = some (.iload_n 1, 1) := x_ins (j := 51) kk188 ia188 rfl
theorem i188_83 {xs : List Int32} : xtI (xTa xs) 188 83 = some (.imul, 1) := x_ins (j := 52) kk188 ia188 rfl
theorem i188_84 {xs : List Int32} : xtI (xTa xs) 188 84 = some (.iload_n 3, 1) := x_ins (j := 53) kk188 ia188 rfl
theorem i188_85 {xs : List Int32} : xtI (xTa xs) 188 85 = some (.iadd, 1) := x_ins (j := 54) kk188 ia188 rfl
theorem i188_86 {xs : List Int32} : xtI (xTa xs) 188 86 = some (.istore 4, 2) := x_ins (j := 55) kk188 ia188 rfl
theorem i188_88 {xs : List Int32} : xtI (xTa xs) 188 88 = some (.sipush 960, 3) := x_ins (j := 56) kk188 ia188 rfl
theorem i188_91 {xs : List Int32} : xtI (xTa xs) 188 91 = some (.iload_n 3, 1) := x_ins (j := 57) kk188 ia188 rfl
theorem i188_92 {xs : List Int32} : xtI (xTa xs) 188 92 = some (.iadd, 1) := x_ins (j := 58) kk188 ia188 rfl
theorem i188_93 {xs : List Int32} : xtI (xTa xs) 188 93 = some (.istore 5, 2) := x_ins (j := 59) kk188 ia188 rfl
theorem i188_95 {xs : List Int32} : xtI (xTa xs) 188 95 = some (.aload_n 0, 1) := x_ins (j := 60) kk188 ia188 rfl
theorem i188_96 {xs : List Int32} : xtI (xTa xs) 188 96 = some (.getfield 53, 3) := x_ins (j := 61) kk188 ia188 rfl
theorem i188_99 {xs : List Int32} : xtI (xTa xs) 188 99 = some (.iload 4, 2) := x_ins (j := 62) kk188 ia188 rfl
theorem i188_101 {xs : List Int32} : xtI (xTa xs) 188 101 = some (.aload_n 0, 1) := x_ins (j := 63) kk188 ia188 rfl
theorem i188_102 {xs : List Int32} : xtI (xTa xs) 188 102 = some (.getfield 53, 3) := x_ins (j := 64) kk188 ia188 rfl
theorem i188_105 {xs : List Int32} : xtI (xTa xs) 188 105 = some (.iload 5, 2) := x_ins (j := 65) kk188 ia188 rfl
theorem i188_107 {xs : List Int32} : xtI (xTa xs) 188 107 = some (.iaload, 1) := x_ins (j := 66) kk188 ia188 rfl
theorem i188_108 {xs : List Int32} : xtI (xTa xs) 188 108 = some (.iastore, 1) := x_ins (j := 67) kk188 ia188 rfl
theorem i188_109 {xs : List Int32} : xtI (xTa xs) 188 109 = some (.aload_n 0, 1) := x_ins (j := 68) kk188 ia188 rfl
theorem i188_110 {xs : List Int32} : xtI (xTa xs) 188 110 = some (.getfield 56, 3) := x_ins (j := 69) kk188 ia188 rfl
theorem i188_113 {xs : List Int32} : xtI (xTa xs) 188 113 = some (.iload 4, 2) := x_ins (j := 70) kk188 ia188 rfl
theorem i188_115 {xs : List Int32} : xtI (xTa xs) 188 115 = some (.aload_n 0, 1) := x_ins (j := 71) kk188 ia188 rfl
theorem i188_116 {xs : List Int32} : xtI (xTa xs) 188 116 = some (.getfield 56, 3) := x_ins (j := 72) kk188 ia188 rfl
theorem i188_119 {xs : List Int32} : xtI (xTa xs) 188 119 = some (.iload 5, 2) := x_ins (j := 73) kk188 ia188 rfl
theorem i188_121 {xs : List Int32} : xtI (xTa xs) 188 121 = some (.iaload, 1) := x_ins (j := 74) kk188 ia188 rfl
theorem i188_122 {xs : List Int32} : xtI (xTa xs) 188 122 = some (.iastore, 1) := x_ins (j := 75) kk188 ia188 rfl
theorem i188_123 {xs : List Int32} : xtI (xTa xs) 188 123 = some (.aload_n 0, 1) := x_ins (j := 76) kk188 ia188 rfl
theorem i188_124 {xs : List Int32} : xtI (xTa xs) 188 124 = some (.getfield 59, 3) := x_ins (j := 77) kk188 ia188 rfl
theorem i188_127 {xs : List Int32} : xtI (xTa xs) 188 127 = some (.iload 4, 2) := x_ins (j := 78) kk188 ia188 rfl
theorem i188_129 {xs : List Int32} : xtI (xTa xs) 188 129 = some (.aload_n 0, 1) := x_ins (j := 79) kk188 ia188 rfl
theorem i188_130 {xs : List Int32} : xtI (xTa xs) 188 130 = some (.getfield 59, 3) := x_ins (j := 80) kk188 ia188 rfl
theorem i188_133 {xs : List Int32} : xtI (xTa xs) 188 133 = some (.iload 5, 2) := x_ins (j := 81) kk188 ia188 rfl
theorem i188_135 {xs : List Int32} : xtI (xTa xs) 188 135 = some (.iaload, 1) := x_ins (j := 82) kk188 ia188 rfl
theorem i188_136 {xs : List Int32} : xtI (xTa xs) 188 136 = some (.iastore, 1) := x_ins (j := 83) kk188 ia188 rfl
theorem i188_137 {xs : List Int32} : xtI (xTa xs) 188 137 = some (.aload_n 0, 1) := x_ins (j := 84) kk188 ia188 rfl
theorem i188_138 {xs : List Int32} : xtI (xTa xs) 188 138 = some (.getfield 62, 3) := x_ins (j := 85) kk188 ia188 rfl
theorem i188_141 {xs : List Int32} : xtI (xTa xs) 188 141 = some (.iload 4, 2) := x_ins (j := 86) kk188 ia188 rfl
theorem i188_143 {xs : List Int32} : xtI (xTa xs) 188 143 = some (.aload_n 0, 1) := x_ins (j := 87) kk188 ia188 rfl
theorem i188_144 {xs : List Int32} : xtI (xTa xs) 188 144 = some (.getfield 62, 3) := x_ins (j := 88) kk188 ia188 rfl
theorem i188_147 {xs : List Int32} : xtI (xTa xs) 188 147 = some (.iload 5, 2) := x_ins (j := 89) kk188 ia188 rfl
theorem i188_149 {xs : List Int32} : xtI (xTa xs) 188 149 = some (.iaload, 1) := x_ins (j := 90) kk188 ia188 rfl
theorem i188_150 {xs : List Int32} : xtI (xTa xs) 188 150 = some (.iastore, 1) := x_ins (j := 91) kk188 ia188 rfl
theorem i188_151 {xs : List Int32} : xtI (xTa xs) 188 151 = some (.aload_n 0, 1) := x_ins (j := 92) kk188 ia188 rfl
theorem i188_152 {xs : List Int32} : xtI (xTa xs) 188 152 = some (.getfield 65, 3) := x_ins (j := 93) kk188 ia188 rfl
theorem i188_155 {xs : List Int32} : xtI (xTa xs) 188 155 = some (.iload 4, 2) := x_ins (j := 94) kk188 ia188 rfl
theorem i188_157 {xs : List Int32} : xtI (xTa xs) 188 157 = some (.aload_n 0, 1) := x_ins (j := 95) kk188 ia188 rfl
theorem i188_158 {xs : List Int32} : xtI (xTa xs) 188 158 = some (.getfield 65, 3) := x_ins (j := 96) kk188 ia188 rfl
theorem i188_161 {xs : List Int32} : xtI (xTa xs) 188 161 = some (.iload 5, 2) := x_ins (j := 97) kk188 ia188 rfl
theorem i188_163 {xs : List Int32} : xtI (xTa xs) 188 163 = some (.iaload, 1) := x_ins (j := 98) kk188 ia188 rfl
theorem i188_164 {xs : List Int32} : xtI (xTa xs) 188 164 = some (.iastore, 1) := x_ins (j := 99) kk188 ia188 rfl
theorem i188_165 {xs : List Int32} : xtI (xTa xs) 188 165 = some (.aload_n 0, 1) := x_ins (j := 100) kk188 ia188 rfl
theorem i188_166 {xs : List Int32} : xtI (xTa xs) 188 166 = some (.getfield 68, 3) := x_ins (j := 101) kk188 ia188 rfl
theorem i188_169 {xs : List Int32} : xtI (xTa xs) 188 169 = some (.iload 4, 2) := x_ins (j := 102) kk188 ia188 rfl
theorem i188_171 {xs : List Int32} : xtI (xTa xs) 188 171 = some (.aload_n 0, 1) := x_ins (j := 103) kk188 ia188 rfl
theorem i188_172 {xs : List Int32} : xtI (xTa xs) 188 172 = some (.getfield 68, 3) := x_ins (j := 104) kk188 ia188 rfl
theorem i188_175 {xs : List Int32} : xtI (xTa xs) 188 175 = some (.iload 5, 2) := x_ins (j := 105) kk188 ia188 rfl
theorem i188_177 {xs : List Int32} : xtI (xTa xs) 188 177 = some (.iaload, 1) := x_ins (j := 106) kk188 ia188 rfl
theorem i188_178 {xs : List Int32} : xtI (xTa xs) 188 178 = some (.iastore, 1) := x_ins (j := 107) kk188 ia188 rfl
theorem i188_179 {xs : List Int32} : xtI (xTa xs) 188 179 = some (.aload_n 0, 1) := x_ins (j := 108) kk188 ia188 rfl
theorem i188_180 {xs : List Int32} : xtI (xTa xs) 188 180 = some (.getfield 71, 3) := x_ins (j := 109) kk188 ia188 rfl
theorem i188_183 {xs : List Int32} : xtI (xTa xs) 188 183 = some (.iload 4, 2) := x_ins (j := 110) kk188 ia188 rfl
theorem i188_185 {xs : List Int32} : xtI (xTa xs) 188 185 = some (.aload_n 0, 1) := x_ins (j := 111) kk188 ia188 rfl
theorem i188_186 {xs : List Int32} : xtI (xTa xs) 188 186 = some (.getfield 71, 3) := x_ins (j := 112) kk188 ia188 rfl
theorem i188_189 {xs : List Int32} : xtI (xTa xs) 188 189 = some (.iload 5, 2) := x_ins (j := 113) kk188 ia188 rfl
theorem i188_191 {xs : List Int32} : xtI (xTa xs) 188 191 = some (.iaload, 1) := x_ins (j := 114) kk188 ia188 rfl
theorem i188_192 {xs : List Int32} : xtI (xTa xs) 188 192 = some (.iastore, 1) := x_ins (j := 115) kk188 ia188 rfl
theorem i188_193 {xs : List Int32} : xtI (xTa xs) 188 193 = some (.aload_n 0, 1) := x_ins (j := 116) kk188 ia188 rfl
theorem i188_194 {xs : List Int32} : xtI (xTa xs) 188 194 = some (.getfield 74, 3) := x_ins (j := 117) kk188 ia188 rfl
theorem i188_197 {xs : List Int32} : xtI (xTa xs) 188 197 = some (.iload 4, 2) := x_ins (j := 118) kk188 ia188 rfl
theorem i188_199 {xs : List Int32} : xtI (xTa xs) 188 199 = some (.aload_n 0, 1) := x_ins (j := 119) kk188 ia188 rfl
theorem i188_200 {xs : List Int32} : xtI (xTa xs) 188 200 = some (.getfield 74, 3) := x_ins (j := 120) kk188 ia188 rfl
theorem i188_203 {xs : List Int32} : xtI (xTa xs) 188 203 = some (.iload 5, 2) := x_ins (j := 121) kk188 ia188 rfl
theorem i188_205 {xs : List Int32} : xtI (xTa xs) 188 205 = some (.baload, 1) := x_ins (j := 122) kk188 ia188 rfl
theorem i188_206 {xs : List Int32} : xtI (xTa xs) 188 206 = some (.bastore, 1) := x_ins (j := 123) kk188 ia188 rfl
theorem i188_207 {xs : List Int32} : xtI (xTa xs) 188 207 = some (.iinc 3 1, 3) := x_ins (j := 124) kk188 ia188 rfl
theorem i188_210 {xs : List Int32} : xtI (xTa xs) 188 210 = some (.goto (-140), 3) := x_ins (j := 125) kk188 ia188 rfl
theorem i188_213 {xs : List Int32} : xtI (xTa xs) 188 213 = some (.iconst 0, 1) := x_ins (j := 126) kk188 ia188 rfl
theorem i188_214 {xs : List Int32} : xtI (xTa xs) 188 214 = some (.istore_n 3, 1) := x_ins (j := 127) kk188 ia188 rfl
theorem i188_215 {xs : List Int32} : xtI (xTa xs) 188 215 = some (.iload_n 3, 1) := x_ins (j := 128) kk188 ia188 rfl
theorem i188_216 {xs : List Int32} : xtI (xTa xs) 188 216 = some (.aload_n 0, 1) := x_ins (j := 129) kk188 ia188 rfl
theorem i188_217 {xs : List Int32} : xtI (xTa xs) 188 217 = some (.getfield 50, 3) := x_ins (j := 130) kk188 ia188 rfl
theorem i188_220 {xs : List Int32} : xtI (xTa xs) 188 220 = some (.iload_n 1, 1) := x_ins (j := 131) kk188 ia188 rfl
theorem i188_221 {xs : List Int32} : xtI (xTa xs) 188 221 = some (.iaload, 1) := x_ins (j := 132) kk188 ia188 rfl
theorem i188_222 {xs : List Int32} : xtI (xTa xs) 188 222 = some (.if_icmp .ge 122, 3) := x_ins (j := 133) kk188 ia188 rfl
theorem i188_225 {xs : List Int32} : xtI (xTa xs) 188 225 = some (.bipush 120, 2) := x_ins (j := 134) kk188 ia188 rfl
theorem i188_227 {xs : List Int32} : xtI (xTa xs) 188 227 = some (.iload_n 1, 1) := x_ins (j := 135) kk188 ia188 rfl
theorem i188_228 {xs : List Int32} : xtI (xTa xs) 188 228 = some (.imul, 1) := x_ins (j := 136) kk188 ia188 rfl
theorem i188_229 {xs : List Int32} : xtI (xTa xs) 188 229 = some (.iload_n 3, 1) := x_ins (j := 137) kk188 ia188 rfl
theorem i188_230 {xs : List Int32} : xtI (xTa xs) 188 230 = some (.iadd, 1) := x_ins (j := 138) kk188 ia188 rfl
theorem i188_231 {xs : List Int32} : xtI (xTa xs) 188 231 = some (.istore 4, 2) := x_ins (j := 139) kk188 ia188 rfl
theorem i188_233 {xs : List Int32} : xtI (xTa xs) 188 233 = some (.sipush 4800, 3) := x_ins (j := 140) kk188 ia188 rfl
theorem i188_236 {xs : List Int32} : xtI (xTa xs) 188 236 = some (.iload_n 3, 1) := x_ins (j := 141) kk188 ia188 rfl
theorem i188_237 {xs : List Int32} : xtI (xTa xs) 188 237 = some (.iadd, 1) := x_ins (j := 142) kk188 ia188 rfl
theorem i188_238 {xs : List Int32} : xtI (xTa xs) 188 238 = some (.istore 5, 2) := x_ins (j := 143) kk188 ia188 rfl
theorem i188_240 {xs : List Int32} : xtI (xTa xs) 188 240 = some (.aload_n 0, 1) := x_ins (j := 144) kk188 ia188 rfl
theorem i188_241 {xs : List Int32} : xtI (xTa xs) 188 241 = some (.getfield 77, 3) := x_ins (j := 145) kk188 ia188 rfl
theorem i188_244 {xs : List Int32} : xtI (xTa xs) 188 244 = some (.iload 4, 2) := x_ins (j := 146) kk188 ia188 rfl
theorem i188_246 {xs : List Int32} : xtI (xTa xs) 188 246 = some (.aload_n 0, 1) := x_ins (j := 147) kk188 ia188 rfl
theorem i188_247 {xs : List Int32} : xtI (xTa xs) 188 247 = some (.getfield 77, 3) := x_ins (j := 148) kk188 ia188 rfl
theorem i188_250 {xs : List Int32} : xtI (xTa xs) 188 250 = some (.iload 5, 2) := x_ins (j := 149) kk188 ia188 rfl
theorem i188_252 {xs : List Int32} : xtI (xTa xs) 188 252 = some (.iaload, 1) := x_ins (j := 150) kk188 ia188 rfl
theorem i188_253 {xs : List Int32} : xtI (xTa xs) 188 253 = some (.iastore, 1) := x_ins (j := 151) kk188 ia188 rfl
theorem i188_254 {xs : List Int32} : xtI (xTa xs) 188 254 = some (.aload_n 0, 1) := x_ins (j := 152) kk188 ia188 rfl
theorem i188_255 {xs : List Int32} : xtI (xTa xs) 188 255 = some (.getfield 80, 3) := x_ins (j := 153) kk188 ia188 rfl
theorem i188_258 {xs : List Int32} : xtI (xTa xs) 188 258 = some (.iload 4, 2) := x_ins (j := 154) kk188 ia188 rfl
theorem i188_260 {xs : List Int32} : xtI (xTa xs) 188 260 = some (.aload_n 0, 1) := x_ins (j := 155) kk188 ia188 rfl
theorem i188_261 {xs : List Int32} : xtI (xTa xs) 188 261 = some (.getfield 80, 3) := x_ins (j := 156) kk188 ia188 rfl
theorem i188_264 {xs : List Int32} : xtI (xTa xs) 188 264 = some (.iload 5, 2) := x_ins (j := 157) kk188 ia188 rfl
theorem i188_266 {xs : List Int32} : xtI (xTa xs) 188 266 = some (.iaload, 1) := x_ins (j := 158) kk188 ia188 rfl
theorem i188_267 {xs : List Int32} : xtI (xTa xs) 188 267 = some (.iastore, 1) := x_ins (j := 159) kk188 ia188 rfl
theorem i188_268 {xs : List Int32} : xtI (xTa xs) 188 268 = some (.aload_n 0, 1) := x_ins (j := 160) kk188 ia188 rfl
theorem i188_269 {xs : List Int32} : xtI (xTa xs) 188 269 = some (.getfield 83, 3) := x_ins (j := 161) kk188 ia188 rfl
theorem i188_272 {xs : List Int32} : xtI (xTa xs) 188 272 = some (.iload 4, 2) := x_ins (j := 162) kk188 ia188 rfl
theorem i188_274 {xs : List Int32} : xtI (xTa xs) 188 274 = some (.aload_n 0, 1) := x_ins (j := 163) kk188 ia188 rfl
theorem i188_275 {xs : List Int32} : xtI (xTa xs) 188 275 = some (.getfield 83, 3) := x_ins (j := 164) kk188 ia188 rfl
theorem i188_278 {xs : List Int32} : xtI (xTa xs) 188 278 = some (.iload 5, 2) := x_ins (j := 165) kk188 ia188 rfl
theorem i188_280 {xs : List Int32} : xtI (xTa xs) 188 280 = some (.iaload, 1) := x_ins (j := 166) kk188 ia188 rfl
theorem i188_281 {xs : List Int32} : xtI (xTa xs) 188 281 = some (.iastore, 1) := x_ins (j := 167) kk188 ia188 rfl
theorem i188_282 {xs : List Int32} : xtI (xTa xs) 188 282 = some (.aload_n 0, 1) := x_ins (j := 168) kk188 ia188 rfl
theorem i188_283 {xs : List Int32} : xtI (xTa xs) 188 283 = some (.getfield 86, 3) := x_ins (j := 169) kk188 ia188 rfl
theorem i188_286 {xs : List Int32} : xtI (xTa xs) 188 286 = some (.iload 4, 2) := x_ins (j := 170) kk188 ia188 rfl
theorem i188_288 {xs : List Int32} : xtI (xTa xs) 188 288 = some (.aload_n 0, 1) := x_ins (j := 171) kk188 ia188 rfl
theorem i188_289 {xs : List Int32} : xtI (xTa xs) 188 289 = some (.getfield 86, 3) := x_ins (j := 172) kk188 ia188 rfl
theorem i188_292 {xs : List Int32} : xtI (xTa xs) 188 292 = some (.iload 5, 2) := x_ins (j := 173) kk188 ia188 rfl
theorem i188_294 {xs : List Int32} : xtI (xTa xs) 188 294 = some (.iaload, 1) := x_ins (j := 174) kk188 ia188 rfl
theorem i188_295 {xs : List Int32} : xtI (xTa xs) 188 295 = some (.iastore, 1) := x_ins (j := 175) kk188 ia188 rfl
theorem i188_296 {xs : List Int32} : xtI (xTa xs) 188 296 = some (.aload_n 0, 1) := x_ins (j := 176) kk188 ia188 rfl
theorem i188_297 {xs : List Int32} : xtI (xTa xs) 188 297 = some (.getfield 89, 3) := x_ins (j := 177) kk188 ia188 rfl
theorem i188_300 {xs : List Int32} : xtI (xTa xs) 188 300 = some (.iload 4, 2) := x_ins (j := 178) kk188 ia188 rfl
theorem i188_302 {xs : List Int32} : xtI (xTa xs) 188 302 = some (.aload_n 0, 1) := x_ins (j := 179) kk188 ia188 rfl
theorem i188_303 {xs : List Int32} : xtI (xTa xs) 188 303 = some (.getfield 89, 3) := x_ins (j := 180) kk188 ia188 rfl
theorem i188_306 {xs : List Int32} : xtI (xTa xs) 188 306 = some (.iload 5, 2) := x_ins (j := 181) kk188 ia188 rfl
theorem i188_308 {xs : List Int32} : xtI (xTa xs) 188 308 = some (.baload, 1) := x_ins (j := 182) kk188 ia188 rfl
theorem i188_309 {xs : List Int32} : xtI (xTa xs) 188 309 = some (.bastore, 1) := x_ins (j := 183) kk188 ia188 rfl
theorem i188_310 {xs : List Int32} : xtI (xTa xs) 188 310 = some (.aload_n 0, 1) := x_ins (j := 184) kk188 ia188 rfl
theorem i188_311 {xs : List Int32} : xtI (xTa xs) 188 311 = some (.getfield 92, 3) := x_ins (j := 185) kk188 ia188 rfl
theorem i188_314 {xs : List Int32} : xtI (xTa xs) 188 314 = some (.iload 4, 2) := x_ins (j := 186) kk188 ia188 rfl
theorem i188_316 {xs : List Int32} : xtI (xTa xs) 188 316 = some (.aload_n 0, 1) := x_ins (j := 187) kk188 ia188 rfl
theorem i188_317 {xs : List Int32} : xtI (xTa xs) 188 317 = some (.getfield 92, 3) := x_ins (j := 188) kk188 ia188 rfl
theorem i188_320 {xs : List Int32} : xtI (xTa xs) 188 320 = some (.iload 5, 2) := x_ins (j := 189) kk188 ia188 rfl
theorem i188_322 {xs : List Int32} : xtI (xTa xs) 188 322 = some (.iaload, 1) := x_ins (j := 190) kk188 ia188 rfl
theorem i188_323 {xs : List Int32} : xtI (xTa xs) 188 323 = some (.iastore, 1) := x_ins (j := 191) kk188 ia188 rfl
theorem i188_324 {xs : List Int32} : xtI (xTa xs) 188 324 = some (.aload_n 0, 1) := x_ins (j := 192) kk188 ia188 rfl
theorem i188_325 {xs : List Int32} : xtI (xTa xs) 188 325 = some (.getfield 95, 3) := x_ins (j := 193) kk188 ia188 rfl
theorem i188_328 {xs : List Int32} : xtI (xTa xs) 188 328 = some (.iload 4, 2) := x_ins (j := 194) kk188 ia188 rfl
theorem i188_330 {xs : List Int32} : xtI (xTa xs) 188 330 = some (.aload_n 0, 1) := x_ins (j := 195) kk188 ia188 rfl
theorem i188_331 {xs : List Int32} : xtI (xTa xs) 188 331 = some (.getfield 95, 3) := x_ins (j := 196) kk188 ia188 rfl
theorem i188_334 {xs : List Int32} : xtI (xTa xs) 188 334 = some (.iload 5, 2) := x_ins (j := 197) kk188 ia188 rfl
theorem i188_336 {xs : List Int32} : xtI (xTa xs) 188 336 = some (.iaload, 1) := x_ins (j := 198) kk188 ia188 rfl
theorem i188_337 {xs : List Int32} : xtI (xTa xs) 188 337 = some (.iastore, 1) := x_ins (j := 199) kk188 ia188 rfl
theorem i188_338 {xs : List Int32} : xtI (xTa xs) 188 338 = some (.iinc 3 1, 3) := x_ins (j := 200) kk188 ia188 rfl
theorem i188_341 {xs : List Int32} : xtI (xTa xs) 188 341 = some (.goto (-126), 3) := x_ins (j := 201) kk188 ia188 rfl
theorem i188_344 {xs : List Int32} : xtI (xTa xs) 188 344 = some (.return_, 1) := x_ins (j := 202) kk188 ia188 rfl
theorem kk189 : xK0.getD 189 [] = k189 := rfl
set_option maxRecDepth 100000 in
theorem ia189 : (k189.all fun e => decide (k189.lookup e.1 = some e.2)) = true := by decide +kernel
theorem i189_0 {xs : List Int32} : xtI (xTa xs) 189 0 = some (.aload_n 0, 1) := x_ins (j := 0) kk189 ia189 rfl
theorem i189_1 {xs : List Int32} : xtI (xTa xs) 189 1 = some (.getfield 146, 3) := x_ins (j := 1) kk189 ia189 rfl
theorem i189_4 {xs : List Int32} : xtI (xTa xs) 189 4 = some (.istore_n 2, 1) := x_ins (j := 2) kk189 ia189 rfl
theorem i189_5 {xs : List Int32} : xtI (xTa xs) 189 5 = some (.aload_n 0, 1) := x_ins (j := 3) kk189 ia189 rfl
theorem i189_6 {xs : List Int32} : xtI (xTa xs) 189 6 = some (.iconst 0, 1) := x_ins (j := 4) kk189 ia189 rfl
theorem i189_7 {xs : List Int32} : xtI (xTa xs) 189 7 = some (.putfield 146, 3) := x_ins (j := 5) kk189 ia189 rfl
theorem i189_10 {xs : List Int32} : xtI (xTa xs) 189 10 = some (.aload_n 0, 1) := x_ins (j := 6) kk189 ia189 rfl
theorem i189_11 {xs : List Int32} : xtI (xTa xs) 189 11 = some (.iload_n 1, 1) := x_ins (j := 7) kk189 ia189 rfl
theorem i189_12 {xs : List Int32} : xtI (xTa xs) 189 12 = some (.invokevirtual 161, 3) := x_ins (j := 8) kk189 ia189 rfl
theorem i189_15 {xs : List Int32} : xtI (xTa xs) 189 15 = some (.ifCond .ne 5, 3) := x_ins (j := 9) kk189 ia189 rfl
theorem i189_18 {xs : List Int32} : xtI (xTa xs) 189 18 = some (.iconst (-1), 1) := x_ins (j := 10) kk189 ia189 rfl
theorem i189_19 {xs : List Int32} : xtI (xTa xs) 189 19 = some (.ireturn, 1) := x_ins (j := 11) kk189 ia189 rfl
theorem i189_20 {xs : List Int32} : xtI (xTa xs) 189 20 = some (.iconst 0, 1) := x_ins (j := 12) kk189 ia189 rfl
theorem i189_21 {xs : List Int32} : xtI (xTa xs) 189 21 = some (.istore_n 3, 1) := x_ins (j := 13) kk189 ia189 rfl
theorem i189_22 {xs : List Int32} : xtI (xTa xs) 189 22 = some (.iload_n 3, 1) := x_ins (j := 14) kk189 ia189 rfl
theorem i189_23 {xs : List Int32} : xtI (xTa xs) 189 23 = some (.iload_n 2, 1) := x_ins (j := 15) kk189 ia189 rfl
theorem i189_24 {xs : List Int32} : xtI (xTa xs) 189 24 = some (.if_icmp .ge 25, 3) := x_ins (j := 16) kk189 ia189 rfl
theorem i189_27 {xs : List Int32} : xtI (xTa xs) 189 27 = some (.aload_n 0, 1) := x_ins (j := 17) kk189 ia189 rfl
theorem i189_28 {xs : List Int32} : xtI (xTa xs) 189 28 = some (.getfield 41, 3) := x_ins (j := 18) kk189 ia189 rfl
theorem i189_31 {xs : List Int32} : xtI (xTa xs) 189 31 = some (.sipush 24000, 3) := x_ins (j := 19) kk189 ia189 rfl
theorem i189_34 {xs : List Int32} : xtI (xTa xs) 189 34 = some (.iload_n 3, 1) := x_ins (j := 20) kk189 ia189 rfl
theorem i189_35 {xs : List Int32} : xtI (xTa xs) 189 35 = some (.iadd, 1) := x_ins (j := 21) kk189 ia189 rfl
theorem i189_36 {xs : List Int32} : xtI (xTa xs) 189 36 = some (.aload_n 0, 1) := x_ins (j := 22) kk189 ia189 rfl
theorem i189_37 {xs : List Int32} : xtI (xTa xs) 189 37 = some (.getfield 9, 3) := x_ins (j := 23) kk189 ia189 rfl
theorem i189_40 {xs : List Int32} : xtI (xTa xs) 189 40 = some (.iload_n 3, 1) := x_ins (j := 24) kk189 ia189 rfl
theorem i189_41 {xs : List Int32} : xtI (xTa xs) 189 41 = some (.iaload, 1) := x_ins (j := 25) kk189 ia189 rfl
theorem i189_42 {xs : List Int32} : xtI (xTa xs) 189 42 = some (.iastore, 1) := x_ins (j := 26) kk189 ia189 rfl
theorem i189_43 {xs : List Int32} : xtI (xTa xs) 189 43 = some (.iinc 3 1, 3) := x_ins (j := 27) kk189 ia189 rfl
theorem i189_46 {xs : List Int32} : xtI (xTa xs) 189 46 = some (.goto (-24), 3) := x_ins (j := 28) kk189 ia189 rfl
theorem i189_49 {xs : List Int32} : xtI (xTa xs) 189 49 = some (.aload_n 0, 1) := x_ins (j := 29) kk189 ia189 rfl
theorem i189_50 {xs : List Int32} : xtI (xTa xs) 189 50 = some (.aload_n 0, 1) := x_ins (j := 30) kk189 ia189 rfl
theorem i189_51 {xs : List Int32} : xtI (xTa xs) 189 51 = some (.getfield 13, 3) := x_ins (j := 31) kk189 ia189 rfl
theorem i189_54 {xs : List Int32} : xtI (xTa xs) 189 54 = some (.iload_n 1, 1) := x_ins (j := 32) kk189 ia189 rfl
theorem i189_55 {xs : List Int32} : xtI (xTa xs) 189 55 = some (.baload, 1) := x_ins (j := 33) kk189 ia189 rfl
theorem i189_56 {xs : List Int32} : xtI (xTa xs) 189 56 = some (.ifCond .ne 7, 3) := x_ins (j := 34) kk189 ia189 rfl
theorem i189_59 {xs : List Int32} : xtI (xTa xs) 189 59 = some (.iconst 1, 1) := x_ins (j := 35) kk189 ia189 rfl
theorem i189_60 {xs : List Int32} : xtI (xTa xs) 189 60 = some (.goto 4, 3) := x_ins (j := 36) kk189 ia189 rfl
theorem i189_63 {xs : List Int32} : xtI (xTa xs) 189 63 = some (.iconst 0, 1) := x_ins (j := 37) kk189 ia189 rfl
theorem i189_64 {xs : List Int32} : xtI (xTa xs) 189 64 = some (.putfield 312, 3) := x_ins (j := 38) kk189 ia189 rfl
theorem i189_67 {xs : List Int32} : xtI (xTa xs) 189 67 = some (.aload_n 0, 1) := x_ins (j := 39) kk189 ia189 rfl
theorem i189_68 {xs : List Int32} : xtI (xTa xs) 189 68 = some (.iload_n 2, 1) := x_ins (j := 40) kk189 ia189 rfl
theorem i189_69 {xs : List Int32} : xtI (xTa xs) 189 69 = some (.invokevirtual 344, 3) := x_ins (j := 41) kk189 ia189 rfl
theorem i189_72 {xs : List Int32} : xtI (xTa xs) 189 72 = some (.aload_n 0, 1) := x_ins (j := 42) kk189 ia189 rfl
theorem i189_73 {xs : List Int32} : xtI (xTa xs) 189 73 = some (.aload_n 0, 1) := x_ins (j := 43) kk189 ia189 rfl
theorem i189_74 {xs : List Int32} : xtI (xTa xs) 189 74 = some (.getfield 218, 3) := x_ins (j := 44) kk189 ia189 rfl
theorem i189_77 {xs : List Int32} : xtI (xTa xs) 189 77 = some (.putfield 347, 3) := x_ins (j := 45) kk189 ia189 rfl
theorem i189_80 {xs : List Int32} : xtI (xTa xs) 189 80 = some (.aload_n 0, 1) := x_ins (j := 46) kk189 ia189 rfl
theorem i189_81 {xs : List Int32} : xtI (xTa xs) 189 81 = some (.getfield 218, 3) := x_ins (j := 47) kk189 ia189 rfl
theorem i189_84 {xs : List Int32} : xtI (xTa xs) 189 84 = some (.ifCond .le 11, 3) := x_ins (j := 48) kk189 ia189 rfl
theorem i189_87 {xs : List Int32} : xtI (xTa xs) 189 87 = some (.bipush (-10), 2) := x_ins (j := 49) kk189 ia189 rfl
theorem i189_89 {xs : List Int32} : xtI (xTa xs) 189 89 = some (.aload_n 0, 1) := x_ins (j := 50) kk189 ia189 rfl
theorem i189_90 {xs : List Int32} : xtI (xTa xs) 189 90 = some (.getfield 221, 3) := x_ins (j := 51) kk189 ia189 rfl
theorem i189_93 {xs : List Int32} : xtI (xTa xs) 189 93 = some (.isub, 1) := x_ins (j := 52) kk189 ia189 rfl
theorem i189_94 {xs : List Int32} : xtI (xTa xs) 189 94 = some (.ireturn, 1) := x_ins (j := 53) kk189 ia189 rfl
theorem i189_95 {xs : List Int32} : xtI (xTa xs) 189 95 = some (.aload_n 0, 1) := x_ins (j := 54) kk189 ia189 rfl
theorem i189_96 {xs : List Int32} : xtI (xTa xs) 189 96 = some (.iload_n 1, 1) := x_ins (j := 55) kk189 ia189 rfl
theorem i189_97 {xs : List Int32} : xtI (xTa xs) 189 97 = some (.iload_n 2, 1) := x_ins (j := 56) kk189 ia189 rfl
theorem i189_98 {xs : List Int32} : xtI (xTa xs) 189 98 = some (.invokevirtual 350, 3) := x_ins (j := 57) kk189 ia189 rfl
theorem i189_101 {xs : List Int32} : xtI (xTa xs) 189 101 = some (.aload_n 0, 1) := x_ins (j := 58) kk189 ia189 rfl
theorem i189_102 {xs : List Int32} : xtI (xTa xs) 189 102 = some (.getfield 47, 3) := x_ins (j := 59) kk189 ia189 rfl
theorem i189_105 {xs : List Int32} : xtI (xTa xs) 189 105 = some (.iload_n 1, 1) := x_ins (j := 60) kk189 ia189 rfl
theorem i189_106 {xs : List Int32} : xtI (xTa xs) 189 106 = some (.iaload, 1) := x_ins (j := 61) kk189 ia189 rfl
theorem i189_107 {xs : List Int32} : xtI (xTa xs) 189 107 = some (.ireturn, 1) := x_ins (j := 62) kk189 ia189 rfl
theorem kk190 : xK0.getD 190 [] = k190 := rfl
set_option maxRecDepth 100000 in
theorem ia190 : (k190.all fun e => decide (k190.lookup e.1 = some e.2)) = true := by decide +kernel
theorem i190_0 {xs : List Int32} : xtI (xTa xs) 190 0 = some (.aload_n 0, 1) := x_ins (j := 0) kk190 ia190 rfl
theorem i190_1 {xs : List Int32} : xtI (xTa xs) 190 1 = some (.getfield 347, 3) := x_ins (j := 1) kk190 ia190 rfl
theorem i190_4 {xs : List Int32} : xtI (xTa xs) 190 4 = some (.ireturn, 1) := x_ins (j := 2) kk190 ia190 rfl
theorem kk191 : xK0.getD 191 [] = k191 := rfl
set_option maxRecDepth 100000 in
theorem ia191 : (k191.all fun e => decide (k191.lookup e.1 = some e.2)) = true := by decide +kernel
theorem i191_0 {xs : List Int32} : xtI (xTa xs) 191 0 = some (.aload_n 0, 1) := x_ins (j := 0) kk191 ia191 rfl
theorem i191_1 {xs : List Int32} : xtI (xTa xs) 191 1 = some (.iload_n 1, 1) := x_ins (j := 1) kk191 ia191 rfl
theorem i191_2 {xs : List Int32} : xtI (xTa xs) 191 2 = some (.invokevirtual 161, 3) := x_ins (j := 2) kk191 ia191 rfl
theorem i191_5 {xs : List Int32} : xtI (xTa xs) 191 5 = some (.ifCond .ne 5, 3) := x_ins (j := 3) kk191 ia191 rfl
theorem i191_8 {xs : List Int32} : xtI (xTa xs) 191 8 = some (.iconst (-1), 1) := x_ins (j := 4) kk191 ia191 rfl
theorem i191_9 {xs : List Int32} : xtI (xTa xs) 191 9 = some (.ireturn, 1) := x_ins (j := 5) kk191 ia191 rfl
theorem i191_10 {xs : List Int32} : xtI (xTa xs) 191 10 = some (.aload_n 0, 1) := x_ins (j := 6) kk191 ia191 rfl
theorem i191_11 {xs : List Int32} : xtI (xTa xs) 191 11 = some (.getfield 44, 3) := x_ins (j := 7) kk191 ia191 rfl
theorem i191_14 {xs : List Int32} : xtI (xTa xs) 191 14 = some (.iload_n 1, 1) := x_ins (j := 8) kk191 ia191 rfl
theorem i191_15 {xs : List Int32} : xtI (xTa xs) 191 15 = some (.iaload, 1) := x_ins (j := 9) kk191 ia191 rfl
theorem i191_16 {xs : List Int32} : xtI (xTa xs) 191 16 = some (.iconst (-1), 1) := x_ins (j := 10) kk191 ia191 rfl
theorem i191_17 {xs : List Int32} : xtI (xTa xs) 191 17 = some (.if_icmp .ne 6, 3) := x_ins (j := 11) kk191 ia191 rfl
theorem i191_20 {xs : List Int32} : xtI (xTa xs) 191 20 = some (.bipush (-2), 2) := x_ins (j := 12) kk191 ia191 rfl
theorem i191_22 {xs : List Int32} : xtI (xTa xs) 191 22 = some (.ireturn, 1) := x_ins (j := 13) kk191 ia191 rfl
theorem i191_23 {xs : List Int32} : xtI (xTa xs) 191 23 = some (.aload_n 0, 1) := x_ins (j := 14) kk191 ia191 rfl
theorem i191_24 {xs : List Int32} : xtI (xTa xs) 191 24 = some (.getfield 47, 3) := x_ins (j := 15) kk191 ia191 rfl
theorem i191_27 {xs : List Int32} : xtI (xTa xs) 191 27 = some (.iload_n 1, 1) := x_ins (j := 16) kk191 ia191 rfl
theorem i191_28 {xs : List Int32} : xtI (xTa xs) 191 28 = some (.iaload, 1) := x_ins (j := 17) kk191 ia191 rfl
theorem i191_29 {xs : List Int32} : xtI (xTa xs) 191 29 = some (.istore_n 2, 1) := x_ins (j := 18) kk191 ia191 rfl
theorem i191_30 {xs : List Int32} : xtI (xTa xs) 191 30 = some (.aload_n 0, 1) := x_ins (j := 19) kk191 ia191 rfl
theorem i191_31 {xs : List Int32} : xtI (xTa xs) 191 31 = some (.getfield 44, 3) := x_ins (j := 20) kk191 ia191 rfl
theorem i191_34 {xs : List Int32} : xtI (xTa xs) 191 34 = some (.iload_n 1, 1) := x_ins (j := 21) kk191 ia191 rfl
theorem i191_35 {xs : List Int32} : xtI (xTa xs) 191 35 = some (.iconst (-1), 1) := x_ins (j := 22) kk191 ia191 rfl
theorem i191_36 {xs : List Int32} : xtI (xTa xs) 191 36 = some (.iastore, 1) := x_ins (j := 23) kk191 ia191 rfl
theorem i191_37 {xs : List Int32} : xtI (xTa xs) 191 37 = some (.aload_n 0, 1) := x_ins (j := 24) kk191 ia191 rfl
theorem i191_38 {xs : List Int32} : xtI (xTa xs) 191 38 = some (.getfield 47, 3) := x_ins (j := 25) kk191 ia191 rfl
theorem i191_41 {xs : List Int32} : xtI (xTa xs) 191 41 = some (.iload_n 1, 1) := x_ins (j := 26) kk191 ia191 rfl
theorem i191_42 {xs : List Int32} : xtI (xTa xs) 191 42 = some (.iconst 0, 1) := x_ins (j := 27) kk191 ia191 rfl
theorem i191_43 {xs : List Int32} : xtI (xTa xs) 191 43 = some (.iastore, 1) := x_ins (j := 28) kk191 ia191 rfl
theorem i191_44 {xs : List Int32} : xtI (xTa xs) 191 44 = some (.aload_n 0, 1) := x_ins (j := 29) kk191 ia191 rfl
theorem i191_45 {xs : List Int32} : xtI (xTa xs) 191 45 = some (.getfield 50, 3) := x_ins (j := 30) kk191 ia191 rfl
theorem i191_48 {xs : List Int32} : xtI (xTa xs) 191 48 = some (.iload_n 1, 1) := x_ins (j := 31) kk191 ia191 rfl
theorem i191_49 {xs : List Int32} : xtI (xTa xs) 191 49 = some (.iconst 0, 1) := x_ins (j := 32) kk191 ia191 rfl
theorem i191_50 {xs : List Int32} : xtI (xTa xs) 191 50 = some (.iastore, 1) := x_ins (j := 33) kk191 ia191 rfl
theorem i191_51 {xs : List Int32} : xtI (xTa xs) 191 51 = some (.iload_n 2, 1) := x_ins (j := 34) kk191 ia191 rfl
theorem i191_52 {xs : List Int32} : xtI (xTa xs) 191 52 = some (.ireturn, 1) := x_ins (j := 35) kk191 ia191 rfl
theorem kk192 : xK0.getD 192 [] = k192 := rfl
set_option maxRecDepth 100000 in
theorem ia192 : (k192.all fun e => decide (k192.lookup e.1 = some e.2)) = true := by decide +kernel
theorem i192_0 {xs : List Int32} : xtI (xTa xs) 192 0 = some (.aload_n 0, 1) := x_ins (j := 0) kk192 ia192 rfl
theorem i192_1 {xs : List Int32} : xtI (xTa xs) 192 1 = some (.iload_n 1, 1) := x_ins (j := 1) kk192 ia192 rfl
theorem i192_2 {xs : List Int32} : xtI (xTa xs) 192 2 = some (.invokevirtual 161, 3) := x_ins (j := 2) kk192 ia192 rfl
theorem i192_5 {xs : List Int32} : xtI (xTa xs) 192 5 = some (.ifCond .ne 6, 3) := x_ins (j := 3) kk192 ia192 rfl
theorem i192_8 {xs : List Int32} : xtI (xTa xs) 192 8 = some (.bipush (-9), 2) := x_ins (j := 4) kk192 ia192 rfl
theorem i192_10 {xs : List Int32} : xtI (xTa xs) 192 10 = some (.ireturn, 1) := x_ins (j := 5) kk192 ia192 rfl
theorem i192_11 {xs : List Int32} : xtI (xTa xs) 192 11 = some (.iload_n 2, 1) := x_ins (j := 6) kk192 ia192 rfl
theorem i192_12 {xs : List Int32} : xtI (xTa xs) 192 12 = some (.tableswitch 110 0 7 #[48, 55, 62, 69, 84, 90, 96, 103], 48) := x_ins (j := 7) kk192 ia192 rfl
theorem i192_60 {xs : List Int32} : xtI (xTa xs) 192 60 = some (.aload_n 0, 1) := x_ins (j := 8) kk192 ia192 rfl
theorem i192_61 {xs : List Int32} : xtI (xTa xs) 192 61 = some (.getfield 17, 3) := x_ins (j := 9) kk192 ia192 rfl
theorem i192_64 {xs : List Int32} : xtI (xTa xs) 192 64 = some (.iload_n 1, 1) := x_ins (j := 10) kk192 ia192 rfl
theorem i192_65 {xs : List Int32} : xtI (xTa xs) 192 65 = some (.iaload, 1) := x_ins (j := 11) kk192 ia192 rfl
theorem i192_66 {xs : List Int32} : xtI (xTa xs) 192 66 = some (.ireturn, 1) := x_ins (j := 12) kk192 ia192 rfl
theorem i192_67 {xs : List Int32} : xtI (xTa xs) 192 67 = some (.aload_n 0, 1) := x_ins (j := 13) kk192 ia192 rfl
theorem i192_68 {xs : List Int32} : xtI (xTa xs) 192 68 = some (.getfield 20, 3) := x_ins (j := 14) kk192 ia192 rfl
theorem i192_71 {xs : List Int32} : xtI (xTa xs) 192 71 = some (.iload_n 1, 1) := x_ins (j := 15) kk192 ia192 rfl
theorem i192_72 {xs : List Int32} : xtI (xTa xs) 192 72 = some (.iaload, 1) := x_ins (j := 16) kk192 ia192 rfl
theorem i192_73 {xs : List Int32} : xtI (xTa xs) 192 73 = some (.ireturn, 1) := x_ins (j := 17) kk192 ia192 rfl
theorem i192_74 {xs : List Int32} : xtI (xTa xs) 192 74 = some (.aload_n 0, 1) := x_ins (j := 18) kk192 ia192 rfl
theorem i192_75 {xs : List Int32} : xtI (xTa xs) 192 75 = some (.getfield 32, 3) := x_ins (j := 19) kk192 ia192 rfl
theorem i192_78 {xs : List Int32} : xtI (xTa xs) 192 78 = some (.iload_n 1, 1) := x_ins (j := 20) kk192 ia192 rfl
theorem i192_79 {xs : List Int32} : xtI (xTa xs) 192 79 = some (.iaload, 1) := x_ins (j := 21) kk192 ia192 rfl
theorem i192_80 {xs : List Int32} : xtI (xTa xs) 192 80 = some (.ireturn, 1) := x_ins (j := 22) kk192 ia192 rfl
theorem i192_81 {xs : List Int32} : xtI (xTa xs) 192 81 = some (.aload_n 0, 1) := x_ins (j := 23) kk192 ia192 rfl
theorem i192_82 {xs : List Int32} : xtI (xTa xs) 192 82 = some (.getfield 23, 3) := x_ins (j := 24) kk192 ia192 rfl
theorem i192_85 {xs : List Int32} : xtI (xTa xs) 192 85 = some (.iload_n 1, 1) := x_ins (j := 25) kk192 ia192 rfl
theorem i192_86 {xs : List Int32} : xtI (xTa xs) 192 86 = some (.baload, 1) := x_ins (j := 26) kk192 ia192 rfl
theorem i192_87 {xs : List Int32} : xtI (xTa xs) 192 87 = some (.ifCond .eq 7, 3) := x_ins (j := 27) kk192 ia192 rfl
theorem i192_90 {xs : List Int32} : xtI (xTa xs) 192 90 = some (.iconst 1, 1) := x_ins (j := 28) kk192 ia192 rfl
theorem i192_91 {xs : List Int32} : xtI (xTa xs) 192 91 = some (.goto 4, 3) := x_ins (j := 29) kk192 ia192 rfl
theorem i192_94 {xs : List Int32} : xtI (xTa xs) 192 94 = some (.iconst 0, 1) := x_ins (j := 30) kk192 ia192 rfl
theorem i192_95 {xs : List Int32} : xtI (xTa xs) 192 95 = some (.ireturn, 1) := x_ins (j := 31) kk192 ia192 rfl
theorem i192_96 {xs : List Int32} : xtI (xTa xs) 192 96 = some (.aload_n 0, 1) := x_ins (j := 32) kk192 ia192 rfl
theorem i192_97 {xs : List Int32} : xtI (xTa xs) 192 97 = some (.iload_n 1, 1) := x_ins (j := 33) kk192 ia192 rfl
theorem i192_98 {xs : List Int32} : xtI (xTa xs) 192 98 = some (.invokevirtual 198, 3) := x_ins (j := 34) kk192 ia192 rfl
theorem i192_101 {xs : List Int32} : xtI (xTa xs) 192 101 = some (.ireturn, 1) := x_ins (j := 35) kk192 ia192 rfl
theorem i192_102 {xs : List Int32} : xtI (xTa xs) 192 102 = some (.aload_n 0, 1) := x_ins (j := 36) kk192 ia192 rfl
theorem i192_103 {xs : List Int32} : xtI (xTa xs) 192 103 = some (.iload_n 1, 1) := x_ins (j := 37) kk192 ia192 rfl
theorem i192_104 {xs : List Int32} : xtI (xTa xs) 192 104 = some (.invokevirtual 353, 3) := x_ins (j := 38) kk192 ia192 rfl
theorem i192_107 {xs : List Int32} : xtI (xTa xs) 192 107 = some (.ireturn, 1) := x_ins (j := 39) kk192 ia192 rfl
theorem i192_108 {xs : List Int32} : xtI (xTa xs) 192 108 = some (.aload_n 0, 1) := x_ins (j := 40) kk192 ia192 rfl
theorem i192_109 {xs : List Int32} : xtI (xTa xs) 192 109 = some (.getfield 47, 3) := x_ins (j := 41) kk192 ia192 rfl
theorem i192_112 {xs : List Int32} : xtI (xTa xs) 192 112 = some (.iload_n 1, 1) := x_ins (j := 42) kk192 ia192 rfl
theorem i192_113 {xs : List Int32} : xtI (xTa xs) 192 113 = some (.iaload, 1) := x_ins (j := 43) kk192 ia192 rfl
theorem i192_114 {xs : List Int32} : xtI (xTa xs) 192 114 = some (.ireturn, 1) := x_ins (j := 44) kk192 ia192 rfl
theorem i192_115 {xs : List Int32} : xtI (xTa xs) 192 115 = some (.aload_n 0, 1) := x_ins (j := 45) kk192 ia192 rfl
theorem i192_116 {xs : List Int32} : xtI (xTa xs) 192 116 = some (.getfield 50, 3) := x_ins (j := 46) kk192 ia192 rfl
theorem i192_119 {xs : List Int32} : xtI (xTa xs) 192 119 = some (.iload_n 1, 1) := x_ins (j := 47) kk192 ia192 rfl
theorem i192_120 {xs : List Int32} : xtI (xTa xs) 192 120 = some (.iaload, 1) := x_ins (j := 48) kk192 ia192 rfl
theorem i192_121 {xs : List Int32} : xtI (xTa xs) 192 121 = some (.ireturn, 1) := x_ins (j := 49) kk192 ia192 rfl
theorem i192_122 {xs : List Int32} : xtI (xTa xs) 192 122 = some (.bipush (-9), 2) := x_ins (j := 50) kk192 ia192 rfl
theorem i192_124 {xs : List Int32} : xtI (xTa xs) 192 124 = some (.ireturn, 1) := x_ins (j := 51) kk192 ia192 rfl
theorem kk193 : xK0.getD 193 [] = k193 := rfl
set_option maxRecDepth 100000 in
theorem ia193 : (k193.all fun e => decide (k193.lookup e.1 = some e.2)) = true := by decide +kernel
theorem i193_0 {xs : List Int32} : xtI (xTa xs) 193 0 = some (.aload_n 0, 1) := x_ins (j := 0) kk193 ia193 rfl
theorem i193_1 {xs : List Int32} : xtI (xTa xs) 193 1 = some (.iload_n 1, 1) := x_ins (j := 1) kk193 ia193 rfl
theorem i193_2 {xs : List Int32} : xtI (xTa xs) 193 2 = some (.invokevirtual 161, 3) := x_ins (j := 2) kk193 ia193 rfl
theorem i193_5 {xs : List Int32} : xtI (xTa xs) 193 5 = some (.ifCond .eq 28, 3) := x_ins (j := 3) kk193 ia193 rfl
theorem i193_8 {xs : List Int32} : xtI (xTa xs) 193 8 = some (.iload_n 2, 1) := x_ins (j := 4) kk193 ia193 rfl
theorem i193_9 {xs : List Int32} : xtI (xTa xs) 193 9 = some (.iconst 0, 1) := x_ins (j := 5) kk193 ia193 rfl
theorem i193_10 {xs : List Int32} : xtI (xTa xs) 193 10 = some (.aload_n 0, 1) := x_ins (j := 6) kk193 ia193 rfl
theorem i193_11 {xs : List Int32} : xtI (xTa xs) 193 11 = some (.getfield 47, 3) := x_ins (j := 7) kk193 ia193 rfl
theorem i193_14 {xs : List Int32} : xtI (xTa xs) 193 14 = some (.iload_n 1, 1) := x_ins (j := 8) kk193 ia193 rfl
theorem i193_15 {xs : List Int32} : xtI (xTa xs) 193 15 = some (.iaload, 1) := x_ins (j := 9) kk193 ia193 rfl
theorem i193_16 {xs : List Int32} : xtI (xTa xs) 193 16 = some (.iconst 1, 1) := x_ins (j := 10) kk193 ia193 rfl
theorem i193_17 {xs : List Int32} : xtI (xTa xs) 193 17 = some (.isub, 1) := x_ins (j := 11) kk193 ia193 rfl
theorem i193_18 {xs : List Int32} : xtI (xTa xs) 193 18 = some (.invokestatic 154, 3) := x_ins (j := 12) kk193 ia193 rfl
theorem i193_21 {xs : List Int32} : xtI (xTa xs) 193 21 = some (.ifCond .eq 12, 3) := x_ins (j := 13) kk193 ia193 rfl
theorem i193_24 {xs : List Int32} : xtI (xTa xs) 193 24 = some (.iload_n 3, 1) := x_ins (j := 14) kk193 ia193 rfl
theorem i193_25 {xs : List Int32} : xtI (xTa xs) 193 25 = some (.iconst 0, 1) := x_ins (j := 15) kk193 ia193 rfl
theorem i193_26 {xs : List Int32} : xtI (xTa xs) 193 26 = some (.iconst 3, 1) := x_ins (j := 16) kk193 ia193 rfl
theorem i193_27 {xs : List Int32} : xtI (xTa xs) 193 27 = some (.invokestatic 154, 3) := x_ins (j := 17) kk193 ia193 rfl
theorem i193_30 {xs : List Int32} : xtI (xTa xs) 193 30 = some (.ifCond .ne 6, 3) := x_ins (j := 18) kk193 ia193 rfl
theorem i193_33 {xs : List Int32} : xtI (xTa xs) 193 33 = some (.bipush (-9), 2) := x_ins (j := 19) kk193 ia193 rfl
theorem i193_35 {xs : List Int32} : xtI (xTa xs) 193 35 = some (.ireturn, 1) := x_ins (j := 20) kk193 ia193 rfl
theorem i193_36 {xs : List Int32} : xtI (xTa xs) 193 36 = some (.bipush 24, 2) := x_ins (j := 21) kk193 ia193 rfl
theorem i193_38 {xs : List Int32} : xtI (xTa xs) 193 38 = some (.iload_n 1, 1) := x_ins (j := 22) kk193 ia193 rfl
theorem i193_39 {xs : List Int32} : xtI (xTa xs) 193 39 = some (.imul, 1) := x_ins (j := 23) kk193 ia193 rfl
theorem i193_40 {xs : List Int32} : xtI (xTa xs) 193 40 = some (.iload_n 2, 1) := x_ins (j := 24) kk193 ia193 rfl
theorem i193_41 {xs : List Int32} : xtI (xTa xs) 193 41 = some (.iadd, 1) := x_ins (j := 25) kk193 ia193 rfl
theorem i193_42 {xs : List Int32} : xtI (xTa xs) 193 42 = some (.istore 4, 2) := x_ins (j := 26) kk193 ia193 rfl
theorem i193_44 {xs : List Int32} : xtI (xTa xs) 193 44 = some (.iload_n 3, 1) := x_ins (j := 27) kk193 ia193 rfl
theorem i193_45 {xs : List Int32} : xtI (xTa xs) 193 45 = some (.ifCond .ne 13, 3) := x_ins (j := 28) kk193 ia193 rfl
theorem i193_48 {xs : List Int32} : xtI (xTa xs) 193 48 = some (.aload_n 0, 1) := x_ins (j := 29) kk193 ia193 rfl
theorem i193_49 {xs : List Int32} : xtI (xTa xs) 193 49 = some (.getfield 53, 3) := x_ins (j := 30) kk193 ia193 rfl
theorem i193_52 {xs : List Int32} : xtI (xTa xs) 193 52 = some (.iload 4, 2) := x_ins (j := 31) kk193 ia193 rfl
theorem i193_54 {xs : List Int32} : xtI (xTa xs) 193 54 = some (.iaload, 1) := x_ins (j := 32) kk193 ia193 rfl
theorem i193_55 {xs : List Int32} : xtI (xTa xs) 193 55 = some (.goto 40, 3) := x_ins (j := 33) kk193 ia193 rfl
theorem i193_58 {xs : List Int32} : xtI (xTa xs) 193 58 = some (.iload_n 3, 1) := x_ins (j := 34) kk193 ia193 rfl
theorem i193_59 {xs : List Int32} : xtI (xTa xs) 193 59 = some (.iconst 1, 1) := x_ins (j := 35) kk193 ia193 rfl
theorem i193_60 {xs : List Int32} : xtI (xTa xs) 193 60 = some (.if_icmp .ne 13, 3) := x_ins (j := 36) kk193 ia193 rfl
theorem i193_63 {xs : List Int32} : xtI (xTa xs) 193 63 = some (.aload_n 0, 1) := x_ins (j := 37) kk193 ia193 rfl
theorem i193_64 {xs : List Int32} : xtI (xTa xs) 193 64 = some (.getfield 56, 3) := x_ins (j := 38) kk193 ia193 rfl
theorem i193_67 {xs : List Int32} : xtI (xTa xs) 193 67 = some (.iload 4, 2) := x_ins (j := 39) kk193 ia193 rfl
theorem i193_69 {xs : List Int32} : xtI (xTa xs) 193 69 = some (.iaload, 1) := x_ins (j := 40) kk193 ia193 rfl
theorem i193_70 {xs : List Int32} : xtI (xTa xs) 193 70 = some (.goto 25, 3) := x_ins (j := 41) kk193 ia193 rfl
theorem i193_73 {xs : List Int32} : xtI (xTa xs) 193 73 = some (.iload_n 3, 1) := x_ins (j := 42) kk193 ia193 rfl
theorem i193_74 {xs : List Int32} : xtI (xTa xs) 193 74 = some (.iconst 2, 1) := x_ins (j := 43) kk193 ia193 rfl
theorem i193_75 {xs : List Int32} : xtI (xTa xs) 193 75 = some (.if_icmp .ne 13, 3) := x_ins (j := 44) kk193 ia193 rfl
theorem i193_78 {xs : List Int32} : xtI (xTa xs) 193 78 = some (.aload_n 0, 1) := x_ins (j := 45) kk193 ia193 rfl
theorem i193_79 {xs : List Int32} : xtI (xTa xs) 193 79 = some (.getfield 62, 3) := x_ins (j := 46) kk193 ia193 rfl
theorem i193_82 {xs : List Int32} : xtI (xTa xs) 193 82 = some (.iload 4, 2) := x_ins (j := 47) kk193 ia193 rfl
theorem i193_84 {xs : List Int32} : xtI (xTa xs) 193 84 = some (.iaload, 1) := x_ins (j := 48) kk193 ia193 rfl
theorem i193_85 {xs : List Int32} : xtI (xTa xs) 193 85 = some (.goto 10, 3) := x_ins (j := 49) kk193 ia193 rfl
theorem i193_88 {xs : List Int32} : xtI (xTa xs) 193 88 = some (.aload_n 0, 1) := x_ins (j := 50) kk193 ia193 rfl
theorem i193_89 {xs : List Int32} : xtI (xTa xs) 193 89 = some (.getfield 65, 3) := x_ins (j := 51) kk193 ia193 rfl
theorem i193_92 {xs : List Int32} : xtI (xTa xs) 193 92 = some (.iload 4, 2) := x_ins (j := 52) kk193 ia193 rfl
theorem i193_94 {xs : List Int32} : xtI (xTa xs) 193 94 = some (.iaload, 1) := x_ins (j := 53) kk193 ia193 rfl
theorem i193_95 {xs : List Int32} : xtI (xTa xs) 193 95 = some (.ireturn, 1) := x_ins (j := 54) kk193 ia193 rfl
theorem kk194 : xK0.getD 194 [] = k194 := rfl
set_option maxRecDepth 100000 in
theorem ia194 : (k194.all fun e => decide (k194.lookup e.1 = some e.2)) = true := by decide +kernel
theorem i194_0 {xs : List Int32} : xtI (xTa xs) 194 0 = some (.aload_n 0, 1) := x_ins (j := 0) kk194 ia194 rfl
theorem i194_1 {xs : List Int32} : xtI (xTa xs) 194 1 = some (.iload_n 1, 1) := x_ins (j := 1) kk194 ia194 rfl
theorem i194_2 {xs : List Int32} : xtI (xTa xs) 194 2 = some (.invokevirtual 161, 3) := x_ins (j := 2) kk194 ia194 rfl
theorem i194_5 {xs : List Int32} : xtI (xTa xs) 194 5 = some (.ifCond .eq 28, 3) := x_ins (j := 3) kk194 ia194 rfl
theorem i194_8 {xs : List Int32} : xtI (xTa xs) 194 8 = some (.iload_n 2, 1) := x_ins (j := 4) kk194 ia194 rfl
theorem i194_9 {xs : List Int32} : xtI (xTa xs) 194 9 = some (.iconst 0, 1) := x_ins (j := 5) kk194 ia194 rfl
theorem i194_10 {xs : List Int32} : xtI (xTa xs) 194 10 = some (.aload_n 0, 1) := x_ins (j := 6) kk194 ia194 rfl
theorem i194_11 {xs : List Int32} : xtI (xTa xs) 194 11 = some (.getfield 50, 3) := x_ins (j := 7) kk194 ia194 rfl
theorem i194_14 {xs : List Int32} : xtI (xTa xs) 194 14 = some (.iload_n 1, 1) := x_ins (j := 8) kk194 ia194 rfl
theorem i194_15 {xs : List Int32} : xtI (xTa xs) 194 15 = some (.iaload, 1) := x_ins (j := 9) kk194 ia194 rfl
theorem i194_16 {xs : List Int32} : xtI (xTa xs) 194 16 = some (.iconst 1, 1) := x_ins (j := 10) kk194 ia194 rfl
theorem i194_17 {xs : List Int32} : xtI (xTa xs) 194 17 = some (.isub, 1) := x_ins (j := 11) kk194 ia194 rfl
theorem i194_18 {xs : List Int32} : xtI (xTa xs) 194 18 = some (.invokestatic 154, 3) := x_ins (j := 12) kk194 ia194 rfl
theorem i194_21 {xs : List Int32} : xtI (xTa xs) 194 21 = some (.ifCond .eq 12, 3) := x_ins (j := 13) kk194 ia194 rfl
theorem i194_24 {xs : List Int32} : xtI (xTa xs) 194 24 = some (.iload_n 3, 1) := x_ins (j := 14) kk194 ia194 rfl
theorem i194_25 {xs : List Int32} : xtI (xTa xs) 194 25 = some (.iconst 0, 1) := x_ins (j := 15) kk194 ia194 rfl
theorem i194_26 {xs : List Int32} : xtI (xTa xs) 194 26 = some (.iconst 4, 1) := x_ins (j := 16) kk194 ia194 rfl
theorem i194_27 {xs : List Int32} : xtI (xTa xs) 194 27 = some (.invokestatic 154, 3) := x_ins (j := 17) kk194 ia194 rfl
theorem i194_30 {xs : List Int32} : xtI (xTa xs) 194 30 = some (.ifCond .ne 6, 3) := x_ins (j := 18) kk194 ia194 rfl
theorem i194_33 {xs : List Int32} : xtI (xTa xs) 194 33 = some (.bipush (-9), 2) := x_ins (j := 19) kk194 ia194 rfl
theorem i194_35 {xs : List Int32} : xtI (xTa xs) 194 35 = some (.ireturn, 1) := x_ins (j := 20) kk194 ia194 rfl
theorem i194_36 {xs : List Int32} : xtI (xTa xs) 194 36 = some (.bipush 120, 2) := x_ins (j := 21) kk194 ia194 rfl
theorem i194_38 {xs : List Int32} : xtI (xTa xs) 194 38 = some (.iload_n 1, 1) := x_ins (j := 22) kk194 ia194 rfl
theorem i194_39 {xs : List Int32} : xtI (xTa xs) 194 39 = some (.imul, 1) := x_ins (j := 23) kk194 ia194 rfl
theorem i194_40 {xs : List Int32} : xtI (xTa xs) 194 40 = some (.iload_n 2, 1) := x_ins (j := 24) kk194 ia194 rfl
theorem i194_41 {xs : List Int32} : xtI (xTa xs) 194 41 = some (.iadd, 1) := x_ins (j := 25) kk194 ia194 rfl
theorem i194_42 {xs : List Int32} : xtI (xTa xs) 194 42 = some (.istore 4, 2) := x_ins (j := 26) kk194 ia194 rfl
theorem i194_44 {xs : List Int32} : xtI (xTa xs) 194 44 = some (.iload_n 3, 1) := x_ins (j := 27) kk194 ia194 rfl
theorem i194_45 {xs : List Int32} : xtI (xTa xs) 194 45 = some (.tableswitch 71 0 3 #[31, 39, 47, 55], 31) := x_ins (j := 28) kk194 ia194 rfl
theorem i194_76 {xs : List Int32} : xtI (xTa xs) 194 76 = some (.aload_n 0, 1) := x_ins (j := 29) kk194 ia194 rfl
theorem i194_77 {xs : List Int32} : xtI (xTa xs) 194 77 = some (.getfield 77, 3) := x_ins (j := 30) kk194 ia194 rfl
theorem i194_80 {xs : List Int32} : xtI (xTa xs) 194 80 = some (.iload 4, 2) := x_ins (j := 31) kk194 ia194 rfl
theorem i194_82 {xs : List Int32} : xtI (xTa xs) 194 82 = some (.iaload, 1) := x_ins (j := 32) kk194 ia194 rfl
theorem i194_83 {xs : List Int32} : xtI (xTa xs) 194 83 = some (.ireturn, 1) := x_ins (j := 33) kk194 ia194 rfl
theorem i194_84 {xs : List Int32} : xtI (xTa xs) 194 84 = some (.aload_n 0, 1) := x_ins (j := 34) kk194 ia194 rfl
theorem i194_85 {xs : List Int32} : xtI (xTa xs) 194 85 = some (.getfield 80, 3) := x_ins (j := 35) kk194 ia194 rfl
theorem i194_88 {xs : List Int32} : xtI (xTa xs) 194 88 = some (.iload 4, 2) := x_ins (j := 36) kk194 ia194 rfl
theorem i194_90 {xs : List Int32} : xtI (xTa xs) 194 90 = some (.iaload, 1) := x_ins (j := 37) kk194 ia194 rfl
theorem i194_91 {xs : List Int32} : xtI (xTa xs) 194 91 = some (.ireturn, 1) := x_ins (j := 38) kk194 ia194 rfl
theorem i194_92 {xs : List Int32} : xtI (xTa xs) 194 92 = some (.aload_n 0, 1) := x_ins (j := 39) kk194 ia194 rfl
theorem i194_93 {xs : List Int32} : xtI (xTa xs) 194 93 = some (.getfield 86, 3) := x_ins (j := 40) kk194 ia194 rfl
theorem i194_96 {xs : List Int32} : xtI (xTa xs) 194 96 = some (.iload 4, 2) := x_ins (j := 41) kk194 ia194 rfl
theorem i194_98 {xs : List Int32} : xtI (xTa xs) 194 98 = some (.iaload, 1) := x_ins (j := 42) kk194 ia194 rfl
theorem i194_99 {xs : List Int32} : xtI (xTa xs) 194 99 = some (.ireturn, 1) := x_ins (j := 43) kk194 ia194 rfl
theorem i194_100 {xs : List Int32} : xtI (xTa xs) 194 100 = some (.aload_n 0, 1) := x_ins (j := 44) kk194 ia194 rfl
theorem i194_101 {xs : List Int32} : xtI (xTa xs) 194 101 = some (.getfield 89, 3) := x_ins (j := 45) kk194 ia194 rfl
theorem i194_104 {xs : List Int32} : xtI (xTa xs) 194 104 = some (.iload 4, 2) := x_ins (j := 46) kk194 ia194 rfl
theorem i194_106 {xs : List Int32} : xtI (xTa xs) 194 106 = some (.baload, 1) := x_ins (j := 47) kk194 ia194 rfl
theorem i194_107 {xs : List Int32} : xtI (xTa xs) 194 107 = some (.ifCond .eq 7, 3) := x_ins (j := 48) kk194 ia194 rfl
theorem i194_110 {xs : List Int32} : xtI (xTa xs) 194 110 = some (.iconst 1, 1) := x_ins (j := 49) kk194 ia194 rfl
theorem i194_111 {xs : List Int32} : xtI (xTa xs) 194 111 = some (.goto 4, 3) := x_ins (j := 50) kk194 ia194 rfl
theorem i194_114 {xs : List Int32} : xtI (xTa xs) 194 114 = some (.iconst 0, 1) := x_ins (j := 51) kk194 ia194 rfl
theorem i194_115 {xs : List Int32} : xtI (xTa xs) 194 115 = some (.ireturn, 1) := x_ins (j := 52) kk194 ia194 rfl
theorem i194_116 {xs : List Int32} : xtI (xTa xs) 194 116 = some (.aload_n 0, 1) := x_ins (j := 53) kk194 ia194 rfl
theorem i194_117 {xs : List Int32} : xtI (xTa xs) 194 117 = some (.getfield 77, 3) := x_ins (j := 54) kk194 ia194 rfl
theorem i194_120 {xs : List Int32} : xtI (xTa xs) 194 120 = some (.iload 4, 2) := x_ins (j := 55) kk194 ia194 rfl
theorem i194_122 {xs : List Int32} : xtI (xTa xs) 194 122 = some (.iaload, 1) := x_ins (j := 56) kk194 ia194 rfl
theorem i194_123 {xs : List Int32} : xtI (xTa xs) 194 123 = some (.iconst 2, 1) := x_ins (j := 57) kk194 ia194 rfl
theorem i194_124 {xs : List Int32} : xtI (xTa xs) 194 124 = some (.if_icmp .ne 35, 3) := x_ins (j := 58) kk194 ia194 rfl
theorem i194_127 {xs : List Int32} : xtI (xTa xs) 194 127 = some (.aload_n 0, 1) := x_ins (j := 59) kk194 ia194 rfl
theorem i194_128 {xs : List Int32} : xtI (xTa xs) 194 128 = some (.iload_n 1, 1) := x_ins (j := 60) kk194 ia194 rfl
theorem i194_129 {xs : List Int32} : xtI (xTa xs) 194 129 = some (.aload_n 0, 1) := x_ins (j := 61) kk194 ia194 rfl
theorem i194_130 {xs : List Int32} : xtI (xTa xs) 194 130 = some (.getfield 41, 3) := x_ins (j := 62) kk194 ia194 rfl
theorem i194_133 {xs : List Int32} : xtI (xTa xs) 194 133 = some (.sipush 600, 3) := x_ins (j := 63) kk194 ia194 rfl
theorem i194_136 {xs : List Int32} : xtI (xTa xs) 194 136 = some (.iload_n 1, 1) := x_ins (j := 64) kk194 ia194 rfl
theorem i194_137 {xs : List Int32} : xtI (xTa xs) 194 137 = some (.imul, 1) := x_ins (j := 65) kk194 ia194 rfl
theorem i194_138 {xs : List Int32} : xtI (xTa xs) 194 138 = some (.aload_n 0, 1) := x_ins (j := 66) kk194 ia194 rfl
theorem i194_139 {xs : List Int32} : xtI (xTa xs) 194 139 = some (.getfield 92, 3) := x_ins (j := 67) kk194 ia194 rfl
theorem i194_142 {xs : List Int32} : xtI (xTa xs) 194 142 = some (.iload 4, 2) := x_ins (j := 68) kk194 ia194 rfl
theorem i194_144 {xs : List Int32} : xtI (xTa xs) 194 144 = some (.iaload, 1) := x_ins (j := 69) kk194 ia194 rfl
theorem i194_145 {xs : List Int32} : xtI (xTa xs) 194 145 = some (.iadd, 1) := x_ins (j := 70) kk194 ia194 rfl
theorem i194_146 {xs : List Int32} : xtI (xTa xs) 194 146 = some (.aload_n 0, 1) := x_ins (j := 71) kk194 ia194 rfl
theorem i194_147 {xs : List Int32} : xtI (xTa xs) 194 147 = some (.getfield 95, 3) := x_ins (j := 72) kk194 ia194 rfl
theorem i194_150 {xs : List Int32} : xtI (xTa xs) 194 150 = some (.iload 4, 2) := x_ins (j := 73) kk194 ia194 rfl
theorem i194_152 {xs : List Int32} : xtI (xTa xs) 194 152 = some (.iaload, 1) := x_ins (j := 74) kk194 ia194 rfl
theorem i194_153 {xs : List Int32} : xtI (xTa xs) 194 153 = some (.invokevirtual 215, 3) := x_ins (j := 75) kk194 ia194 rfl
theorem i194_156 {xs : List Int32} : xtI (xTa xs) 194 156 = some (.goto 4, 3) := x_ins (j := 76) kk194 ia194 rfl
theorem i194_159 {xs : List Int32} : xtI (xTa xs) 194 159 = some (.iconst (-1), 1) := x_ins (j := 77) kk194 ia194 rfl
theorem i194_160 {xs : List Int32} : xtI (xTa xs) 194 160 = some (.ireturn, 1) := x_ins (j := 78) kk194 ia194 rfl
theorem kk195 : xK0.getD 195 [] = k195 := rfl
set_option maxRecDepth 100000 in
theorem ia195 : (k195.all fun e => decide (k195.lookup e.1 = some e.2)) = true := by decide +kernel
theorem i195_0 {xs : List Int32} : xtI (xTa xs) 195 0 = some (.aload_n 0, 1) := x_ins (j := 0) kk195 ia195 rfl
theorem i195_1 {xs : List Int32} : xtI (xTa xs) 195 1 = some (.getfield 356, 3) := x_ins (j := 1) kk195 ia195 rfl
theorem i195_4 {xs : List Int32} : xtI (xTa xs) 195 4 = some (.sipush 4000, 3) := x_ins (j := 2) kk195 ia195 rfl
theorem i195_7 {xs : List Int32} : xtI (xTa xs) 195 7 = some (.if_icmp .ge 13, 3) := x_ins (j := 3) kk195 ia195 rfl
theorem i195_10 {xs : List Int32} : xtI (xTa xs) 195 10 = some (.aload_n 0, 1) := x_ins (j := 4) kk195 ia195 rfl
theorem i195_11 {xs : List Int32} : xtI (xTa xs) 195 11 = some (.getfield 98, 3) := x_ins (j := 5) kk195 ia195 rfl
theorem i195_14 {xs : List Int32} : xtI (xTa xs) 195 14 = some (.aload_n 0, 1) := x_ins (j := 6) kk195 ia195 rfl
theorem i195_15 {xs : List Int32} : xtI (xTa xs) 195 15 = some (.getfield 356, 3) := x_ins (j := 7) kk195 ia195 rfl
theorem i195_18 {xs : List Int32} : xtI (xTa xs) 195 18 = some (.iload_n 1, 1) := x_ins (j := 8) kk195 ia195 rfl
theorem i195_19 {xs : List Int32} : xtI (xTa xs) 195 19 = some (.iastore, 1) := x_ins (j := 9) kk195 ia195 rfl
theorem i195_20 {xs : List Int32} : xtI (xTa xs) 195 20 = some (.aload_n 0, 1) := x_ins (j := 10) kk195 ia195 rfl
theorem i195_21 {xs : List Int32} : xtI (xTa xs) 195 21 = some (.dup, 1) := x_ins (j := 11) kk195 ia195 rfl
theorem i195_22 {xs : List Int32} : xtI (xTa xs) 195 22 = some (.getfield 356, 3) := x_ins (j := 12) kk195 ia195 rfl
theorem i195_25 {xs : List Int32} : xtI (xTa xs) 195 25 = some (.iconst 1, 1) := x_ins (j := 13) kk195 ia195 rfl
theorem i195_26 {xs : List Int32} : xtI (xTa xs) 195 26 = some (.iadd, 1) := x_ins (j := 14) kk195 ia195 rfl
theorem i195_27 {xs : List Int32} : xtI (xTa xs) 195 27 = some (.putfield 356, 3) := x_ins (j := 15) kk195 ia195 rfl
theorem i195_30 {xs : List Int32} : xtI (xTa xs) 195 30 = some (.return_, 1) := x_ins (j := 16) kk195 ia195 rfl
theorem kk196 : xK0.getD 196 [] = k196 := rfl
set_option maxRecDepth 100000 in
theorem ia196 : (k196.all fun e => decide (k196.lookup e.1 = some e.2)) = true := by decide +kernel
theorem i196_0 {xs : List Int32} : xtI (xTa xs) 196 0 = some (.iconst 1, 1) := x_ins (j := 0) kk196 ia196 rfl
theorem i196_1 {xs : List Int32} : xtI (xTa xs) 196 1 = some (.istore_n 2, 1) := x_ins (j := 1) kk196 ia196 rfl
theorem i196_2 {xs : List Int32} : xtI (xTa xs) 196 2 = some (.iload_n 1, 1) := x_ins (j := 2) kk196 ia196 rfl
theorem i196_3 {xs : List Int32} : xtI (xTa xs) 196 3 = some (.iload_n 2, 1) := x_ins (j := 3) kk196 ia196 rfl
theorem i196_4 {xs : List Int32} : xtI (xTa xs) 196 4 = some (.idiv, 1) := x_ins (j := 4) kk196 ia196 rfl
theorem i196_5 {xs : List Int32} : xtI (xTa xs) 196 5 = some (.bipush 9, 2) := x_ins (j := 5) kk196 ia196 rfl
theorem i196_7 {xs : List Int32} : xtI (xTa xs) 196 7 = some (.if_icmp .le 11, 3) := x_ins (j := 6) kk196 ia196 rfl
theorem i196_10 {xs : List Int32} : xtI (xTa xs) 196 10 = some (.iload_n 2, 1) := x_ins (j := 7) kk196 ia196 rfl
theorem i196_11 {xs : List Int32} : xtI (xTa xs) 196 11 = some (.bipush 10, 2) := x_ins (j := 8) kk196 ia196 rfl
theorem i196_13 {xs : List Int32} : xtI (xTa xs) 196 13 = some (.imul, 1) := x_ins (j := 9) kk196 ia196 rfl
theorem i196_14 {xs : List Int32} : xtI (xTa xs) 196 14 = some (.istore_n 2, 1) := x_ins (j := 10) kk196 ia196 rfl
theorem i196_15 {xs : List Int32} : xtI (xTa xs) 196 15 = some (.goto (-13), 3) := x_ins (j := 11) kk196 ia196 rfl
theorem i196_18 {xs : List Int32} : xtI (xTa xs) 196 18 = some (.iload_n 2, 1) := x_ins (j := 12) kk196 ia196 rfl
theorem i196_19 {xs : List Int32} : xtI (xTa xs) 196 19 = some (.ifCond .le 24, 3) := x_ins (j := 13) kk196 ia196 rfl
theorem i196_22 {xs : List Int32} : xtI (xTa xs) 196 22 = some (.aload_n 0, 1) := x_ins (j := 14) kk196 ia196 rfl
theorem i196_23 {xs : List Int32} : xtI (xTa xs) 196 23 = some (.bipush 48, 2) := x_ins (j := 15) kk196 ia196 rfl
theorem i196_25 {xs : List Int32} : xtI (xTa xs) 196 25 = some (.iload_n 1, 1) := x_ins (j := 16) kk196 ia196 rfl
theorem i196_26 {xs : List Int32} : xtI (xTa xs) 196 26 = some (.iload_n 2, 1) := x_ins (j := 17) kk196 ia196 rfl
theorem i196_27 {xs : List Int32} : xtI (xTa xs) 196 27 = some (.idiv, 1) := x_ins (j := 18) kk196 ia196 rfl
theorem i196_28 {xs : List Int32} : xtI (xTa xs) 196 28 = some (.bipush 10, 2) := x_ins (j := 19) kk196 ia196 rfl
theorem i196_30 {xs : List Int32} : xtI (xTa xs) 196 30 = some (.irem, 1) := x_ins (j := 20) kk196 ia196 rfl
theorem i196_31 {xs : List Int32} : xtI (xTa xs) 196 31 = some (.iadd, 1) := x_ins (j := 21) kk196 ia196 rfl
theorem i196_32 {xs : List Int32} : xtI (xTa xs) 196 32 = some (.invokevirtual 359, 3) := x_ins (j := 22) kk196 ia196 rfl
theorem i196_35 {xs : List Int32} : xtI (xTa xs) 196 35 = some (.iload_n 2, 1) := x_ins (j := 23) kk196 ia196 rfl
theorem i196_36 {xs : List Int32} : xtI (xTa xs) 196 36 = some (.bipush 10, 2) := x_ins (j := 24) kk196 ia196 rfl
theorem i196_38 {xs : List Int32} : xtI (xTa xs) 196 38 = some (.idiv, 1) := x_ins (j := 25) kk196 ia196 rfl
theorem i196_39 {xs : List Int32} : xtI (xTa xs) 196 39 = some (.istore_n 2, 1) := x_ins (j := 26) kk196 ia196 rfl
theorem i196_40 {xs : List Int32} : xtI (xTa xs) 196 40 = some (.goto (-22), 3) := x_ins (j := 27) kk196 ia196 rfl
theorem i196_43 {xs : List Int32} : xtI (xTa xs) 196 43 = some (.return_, 1) := x_ins (j := 28) kk196 ia196 rfl
theorem kk197 : xK0.getD 197 [] = k197 := rfl
set_option maxRecDepth 100000 in
theorem ia197 : (k197.all fun e => decide (k197.lookup e.1 = some e.2)) = true := by decide +kernel
theorem i197_0 {xs : List Int32} : xtI (xTa xs) 197 0 = some (.aload_n 0, 1) := x_ins (j := 0) kk197 ia197 rfl
theorem i197_1 {xs : List Int32} : xtI (xTa xs) 197 1 = some (.getfield 362, 3) := x_ins (j := 1) kk197 ia197 rfl
theorem i197_4 {xs : List Int32} : xtI (xTa xs) 197 4 = some (.sipush 4001, 3) := x_ins (j := 2) kk197 ia197 rfl
theorem i197_7 {xs : List Int32} : xtI (xTa xs) 197 7 = some (.if_icmp .ge 16, 3) := x_ins (j := 3) kk197 ia197 rfl
theorem i197_10 {xs : List Int32} : xtI (xTa xs) 197 10 = some (.aload_n 0, 1) := x_ins (j := 4) kk197 ia197 rfl
theorem i197_11 {xs : List Int32} : xtI (xTa xs) 197 11 = some (.getfield 101, 3) := x_ins (j := 5) kk197 ia197 rfl
theorem i197_14 {xs : List Int32} : xtI (xTa xs) 197 14 = some (.aload_n 0, 1) := x_ins (j := 6) kk197 ia197 rfl
theorem i197_15 {xs : List Int32} : xtI (xTa xs) 197 15 = some (.getfield 362, 3) := x_ins (j := 7) kk197 ia197 rfl
theorem i197_18 {xs : List Int32} : xtI (xTa xs) 197 18 = some (.aload_n 0, 1) := x_ins (j := 8) kk197 ia197 rfl
theorem i197_19 {xs : List Int32} : xtI (xTa xs) 197 19 = some (.getfield 356, 3) := x_ins (j := 9) kk197 ia197 rfl
theorem i197_22 {xs : List Int32} : xtI (xTa xs) 197 22 = some (.iastore, 1) := x_ins (j := 10) kk197 ia197 rfl
theorem i197_23 {xs : List Int32} : xtI (xTa xs) 197 23 = some (.aload_n 0, 1) := x_ins (j := 11) kk197 ia197 rfl
theorem i197_24 {xs : List Int32} : xtI (xTa xs) 197 24 = some (.dup, 1) := x_ins (j := 12) kk197 ia197 rfl
theorem i197_25 {xs : List Int32} : xtI (xTa xs) 197 25 = some (.getfield 362, 3) := x_ins (j := 13) kk197 ia197 rfl
theorem i197_28 {xs : List Int32} : xtI (xTa xs) 197 28 = some (.iconst 1, 1) := x_ins (j := 14) kk197 ia197 rfl
theorem i197_29 {xs : List Int32} : xtI (xTa xs) 197 29 = some (.iadd, 1) := x_ins (j := 15) kk197 ia197 rfl
theorem i197_30 {xs : List Int32} : xtI (xTa xs) 197 30 = some (.putfield 362, 3) := x_ins (j := 16) kk197 ia197 rfl
theorem i197_33 {xs : List Int32} : xtI (xTa xs) 197 33 = some (.return_, 1) := x_ins (j := 17) kk197 ia197 rfl
theorem kk198 : xK0.getD 198 [] = k198 := rfl
set_option maxRecDepth 100000 in
theorem ia198 : (k198.all fun e => decide (k198.lookup e.1 = some e.2)) = true := by decide +kernel
theorem i198_0 {xs : List Int32} : xtI (xTa xs) 198 0 = some (.aload_n 0, 1) := x_ins (j := 0) kk198 ia198 rfl
theorem i198_1 {xs : List Int32} : xtI (xTa xs) 198 1 = some (.getfield 362, 3) := x_ins (j := 1) kk198 ia198 rfl
theorem i198_4 {xs : List Int32} : xtI (xTa xs) 198 4 = some (.sipush 4002, 3) := x_ins (j := 2) kk198 ia198 rfl
theorem i198_7 {xs : List Int32} : xtI (xTa xs) 198 7 = some (.if_icmp .ge 17, 3) := x_ins (j := 3) kk198 ia198 rfl
theorem i198_10 {xs : List Int32} : xtI (xTa xs) 198 10 = some (.aload_n 0, 1) := x_ins (j := 4) kk198 ia198 rfl
theorem i198_11 {xs : List Int32} : xtI (xTa xs) 198 11 = some (.getfield 101, 3) := x_ins (j := 5) kk198 ia198 rfl
theorem i198_14 {xs : List Int32} : xtI (xTa xs) 198 14 = some (.aload_n 0, 1) := x_ins (j := 6) kk198 ia198 rfl
theorem i198_15 {xs : List Int32} : xtI (xTa xs) 198 15 = some (.getfield 362, 3) := x_ins (j := 7) kk198 ia198 rfl
theorem i198_18 {xs : List Int32} : xtI (xTa xs) 198 18 = some (.iconst 1, 1) := x_ins (j := 8) kk198 ia198 rfl
theorem i198_19 {xs : List Int32} : xtI (xTa xs) 198 19 = some (.isub, 1) := x_ins (j := 9) kk198 ia198 rfl
theorem i198_20 {xs : List Int32} : xtI (xTa xs) 198 20 = some (.iaload, 1) := x_ins (j := 10) kk198 ia198 rfl
theorem i198_21 {xs : List Int32} : xtI (xTa xs) 198 21 = some (.goto 7, 3) := x_ins (j := 11) kk198 ia198 rfl
theorem i198_24 {xs : List Int32} : xtI (xTa xs) 198 24 = some (.aload_n 0, 1) := x_ins (j := 12) kk198 ia198 rfl
theorem i198_25 {xs : List Int32} : xtI (xTa xs) 198 25 = some (.getfield 356, 3) := x_ins (j := 13) kk198 ia198 rfl
theorem i198_28 {xs : List Int32} : xtI (xTa xs) 198 28 = some (.istore_n 1, 1) := x_ins (j := 14) kk198 ia198 rfl
theorem i198_29 {xs : List Int32} : xtI (xTa xs) 198 29 = some (.aload_n 0, 1) := x_ins (j := 15) kk198 ia198 rfl
theorem i198_30 {xs : List Int32} : xtI (xTa xs) 198 30 = some (.aload_n 0, 1) := x_ins (j := 16) kk198 ia198 rfl
theorem i198_31 {xs : List Int32} : xtI (xTa xs) 198 31 = some (.getfield 356, 3) := x_ins (j := 17) kk198 ia198 rfl
theorem i198_34 {xs : List Int32} : xtI (xTa xs) 198 34 = some (.iload_n 1, 1) := x_ins (j := 18) kk198 ia198 rfl
theorem i198_35 {xs : List Int32} : xtI (xTa xs) 198 35 = some (.isub, 1) := x_ins (j := 19) kk198 ia198 rfl
theorem i198_36 {xs : List Int32} : xtI (xTa xs) 198 36 = some (.aload_n 0, 1) := x_ins (j := 20) kk198 ia198 rfl
theorem i198_37 {xs : List Int32} : xtI (xTa xs) 198 37 = some (.getfield 365, 3) := x_ins (j := 21) kk198 ia198 rfl
theorem i198_40 {xs : List Int32} : xtI (xTa xs) 198 40 = some (.if_icmp .le 12, 3) := x_ins (j := 22) kk198 ia198 rfl
theorem i198_43 {xs : List Int32} : xtI (xTa xs) 198 43 = some (.aload_n 0, 1) := x_ins (j := 23) kk198 ia198 rfl
theorem i198_44 {xs : List Int32} : xtI (xTa xs) 198 44 = some (.getfield 356, 3) := x_ins (j := 24) kk198 ia198 rfl
theorem i198_47 {xs : List Int32} : xtI (xTa xs) 198 47 = some (.iload_n 1, 1) := x_ins (j := 25) kk198 ia198 rfl
theorem i198_48 {xs : List Int32} : xtI (xTa xs) 198 48 = some (.isub, 1) := x_ins (j := 26) kk198 ia198 rfl
theorem i198_49 {xs : List Int32} : xtI (xTa xs) 198 49 = some (.goto 7, 3) := x_ins (j := 27) kk198 ia198 rfl
theorem i198_52 {xs : List Int32} : xtI (xTa xs) 198 52 = some (.aload_n 0, 1) := x_ins (j := 28) kk198 ia198 rfl
theorem i198_53 {xs : List Int32} : xtI (xTa xs) 198 53 = some (.getfield 365, 3) := x_ins (j := 29) kk198 ia198 rfl
theorem i198_56 {xs : List Int32} : xtI (xTa xs) 198 56 = some (.putfield 365, 3) := x_ins (j := 30) kk198 ia198 rfl
theorem i198_59 {xs : List Int32} : xtI (xTa xs) 198 59 = some (.aload_n 0, 1) := x_ins (j := 31) kk198 ia198 rfl
theorem i198_60 {xs : List Int32} : xtI (xTa xs) 198 60 = some (.bipush 10, 2) := x_ins (j := 32) kk198 ia198 rfl
theorem i198_62 {xs : List Int32} : xtI (xTa xs) 198 62 = some (.invokevirtual 359, 3) := x_ins (j := 33) kk198 ia198 rfl
theorem i198_65 {xs : List Int32} : xtI (xTa xs) 198 65 = some (.return_, 1) := x_ins (j := 34) kk198 ia198 rfl
theorem kk199 : xK0.getD 199 [] = k199 := rfl
set_option maxRecDepth 100000 in
theorem ia199 : (k199.all fun e => decide (k199.lookup e.1 = some e.2)) = true := by decide +kernel
theorem i199_0 {xs : List Int32} : xtI (xTa xs) 199 0 = some (.aload_n 0, 1) := x_ins (j := 0) kk199 ia199 rfl
theorem i199_1 {xs : List Int32} : xtI (xTa xs) 199 1 = some (.invokevirtual 368, 3) := x_ins (j := 1) kk199 ia199 rfl
theorem i199_4 {xs : List Int32} : xtI (xTa xs) 199 4 = some (.aload_n 0, 1) := x_ins (j := 2) kk199 ia199 rfl
theorem i199_5 {xs : List Int32} : xtI (xTa xs) 199 5 = some (.invokevirtual 371, 3) := x_ins (j := 3) kk199 ia199 rfl
theorem i199_8 {xs : List Int32} : xtI (xTa xs) 199 8 = some (.return_, 1) := x_ins (j := 4) kk199 ia199 rfl
theorem kk200 : xK0.getD 200 [] = k200 := rfl
set_option maxRecDepth 100000 in
theorem ia200 : (k200.all fun e => decide (k200.lookup e.1 = some e.2)) = true := by decide +kernel
theorem i200_0 {xs : List Int32} : xtI (xTa xs) 200 0 = some (.aload_n 0, 1) := x_ins (j := 0) kk200 ia200 rfl
theorem i200_1 {xs : List Int32} : xtI (xTa xs) 200 1 = some (.getfield 13, 3) := x_ins (j := 1) kk200 ia200 rfl
theorem i200_4 {xs : List Int32} : xtI (xTa xs) 200 4 = some (.iload_n 1, 1) := x_ins (j := 2) kk200 ia200 rfl
theorem i200_5 {xs : List Int32} : xtI (xTa xs) 200 5 = some (.baload, 1) := x_ins (j := 3) kk200 ia200 rfl
theorem i200_6 {xs : List Int32} : xtI (xTa xs) 200 6 = some (.ifCond .ne 19, 3) := x_ins (j := 4) kk200 ia200 rfl
theorem i200_9 {xs : List Int32} : xtI (xTa xs) 200 9 = some (.aload_n 0, 1) := x_ins (j := 5) kk200 ia200 rfl
theorem i200_10 {xs : List Int32} : xtI (xTa xs) 200 10 = some (.aload_n 0, 1) := x_ins (j := 6) kk200 ia200 rfl
theorem i200_11 {xs : List Int32} : xtI (xTa xs) 200 11 = some (.getfield 17, 3) := x_ins (j := 7) kk200 ia200 rfl
theorem i200_14 {xs : List Int32} : xtI (xTa xs) 200 14 = some (.iload_n 1, 1) := x_ins (j := 8) kk200 ia200 rfl
theorem i200_15 {xs : List Int32} : xtI (xTa xs) 200 15 = some (.iaload, 1) := x_ins (j := 9) kk200 ia200 rfl
theorem i200_16 {xs : List Int32} : xtI (xTa xs) 200 16 = some (.invokevirtual 374, 3) := x_ins (j := 10) kk200 ia200 rfl
theorem i200_19 {xs : List Int32} : xtI (xTa xs) 200 19 = some (.aload_n 0, 1) := x_ins (j := 11) kk200 ia200 rfl
theorem i200_20 {xs : List Int32} : xtI (xTa xs) 200 20 = some (.bipush 46, 2) := x_ins (j := 12) kk200 ia200 rfl
theorem i200_22 {xs : List Int32} : xtI (xTa xs) 200 22 = some (.invokevirtual 359, 3) := x_ins (j := 13) kk200 ia200 rfl
theorem i200_25 {xs : List Int32} : xtI (xTa xs) 200 25 = some (.aload_n 0, 1) := x_ins (j := 14) kk200 ia200 rfl
theorem i200_26 {xs : List Int32} : xtI (xTa xs) 200 26 = some (.iload_n 1, 1) := x_ins (j := 15) kk200 ia200 rfl
theorem i200_27 {xs : List Int32} : xtI (xTa xs) 200 27 = some (.invokevirtual 374, 3) := x_ins (j := 16) kk200 ia200 rfl
theorem i200_30 {xs : List Int32} : xtI (xTa xs) 200 30 = some (.return_, 1) := x_ins (j := 17) kk200 ia200 rfl
theorem kk201 : xK0.getD 201 [] = k201 := rfl
set_option maxRecDepth 100000 in
theorem ia201 : (k201.all fun e => decide (k201.lookup e.1 = some e.2)) = true := by decide +kernel
theorem i201_0 {xs : List Int32} : xtI (xTa xs) 201 0 = some (.iconst 0, 1) := x_ins (j := 0) kk201 ia201 rfl
theorem i201_1 {xs : List Int32} : xtI (xTa xs) 201 1 = some (.istore_n 2, 1) := x_ins (j := 1) kk201 ia201 rfl
theorem i201_2 {xs : List Int32} : xtI (xTa xs) 201 2 = some (.iload_n 2, 1) := x_ins (j := 2) kk201 ia201 rfl
theorem i201_3 {xs : List Int32} : xtI (xTa xs) 201 3 = some (.aload_n 0, 1) := x_ins (j := 3) kk201 ia201 rfl
theorem i201_4 {xs : List Int32} : xtI (xTa xs) 201 4 = some (.getfield 29, 3) := x_ins (j := 4) kk201 ia201 rfl
theorem i201_7 {xs : List Int32} : xtI (xTa xs) 201 7 = some (.iload_n 1, 1) := x_ins (j := 5) kk201 ia201 rfl
theorem i201_8 {xs : List Int32} : xtI (xTa xs) 201 8 = some (.iaload, 1) := x_ins (j := 6) kk201 ia201 rfl
theorem i201_9 {xs : List Int32} : xtI (xTa xs) 201 9 = some (.if_icmp .ge 24, 3) := x_ins (j := 7) kk201 ia201 rfl
theorem i201_12 {xs : List Int32} : xtI (xTa xs) 201 12 = some (.aload_n 0, 1) := x_ins (j := 8) kk201 ia201 rfl
theorem i201_13 {xs : List Int32} : xtI (xTa xs) 201 13 = some (.aload_n 0, 1) := x_ins (j := 9) kk201 ia201 rfl
theorem i201_14 {xs : List Int32} : xtI (xTa xs) 201 14 = some (.getfield 26, 3) := x_ins (j := 10) kk201 ia201 rfl
theorem i201_17 {xs : List Int32} : xtI (xTa xs) 201 17 = some (.bipush 10, 2) := x_ins (j := 11) kk201 ia201 rfl
theorem i201_19 {xs : List Int32} : xtI (xTa xs) 201 19 = some (.iload_n 1, 1) := x_ins (j := 12) kk201 ia201 rfl
theorem i201_20 {xs : List Int32} : xtI (xTa xs) 201 20 = some (.imul, 1) := x_ins (j := 13) kk201 ia201 rfl
theorem i201_21 {xs : List Int32} : xtI (xTa xs) 201 21 = some (.iload_n 2, 1) := x_ins (j := 14) kk201 ia201 rfl
theorem i201_22 {xs : List Int32} : xtI (xTa xs) 201 22 = some (.iadd, 1) := x_ins (j := 15) kk201 ia201 rfl
theorem i201_23 {xs : List Int32} : xtI (xTa xs) 201 23 = some (.iaload, 1) := x_ins (j := 16) kk201 ia201 rfl
theorem i201_24 {xs : List Int32} : xtI (xTa xs) 201 24 = some (.invokevirtual 359, 3) := x_ins (j := 17) kk201 ia201 rfl
theorem i201_27 {xs : List Int32} : xtI (xTa xs) 201 27 = some (.iinc 2 1, 3) := x_ins (j := 18) kk201 ia201 rfl
theorem i201_30 {xs : List Int32} : xtI (xTa xs) 201 30 = some (.goto (-28), 3) := x_ins (j := 19) kk201 ia201 rfl
theorem i201_33 {xs : List Int32} : xtI (xTa xs) 201 33 = some (.return_, 1) := x_ins (j := 20) kk201 ia201 rfl
theorem kk202 : xK0.getD 202 [] = k202 := rfl
set_option maxRecDepth 100000 in
theorem ia202 : (k202.all fun e => decide (k202.lookup e.1 = some e.2)) = true := by decide +kernel
theorem i202_0 {xs : List Int32} : xtI (xTa xs) 202 0 = some (.aload_n 0, 1) := x_ins (j := 0) kk202 ia202 rfl
theorem i202_1 {xs : List Int32} : xtI (xTa xs) 202 1 = some (.getfield 119, 3) := x_ins (j := 1) kk202 ia202 rfl
theorem i202_4 {xs : List Int32} : xtI (xTa xs) 202 4 = some (.aload_n 0, 1) := x_ins (j := 2) kk202 ia202 rfl
theorem i202_5 {xs : List Int32} : xtI (xTa xs) 202 5 = some (.getfield 377, 3) := x_ins (j := 3) kk202 ia202 rfl
theorem i202_8 {xs : List Int32} : xtI (xTa xs) 202 8 = some (.aload_n 0, 1) := x_ins (j := 4) kk202 ia202 rfl
theorem i202_9 {xs : List Int32} : xtI (xTa xs) 202 9 = some (.getfield 380, 3) := x_ins (j := 5) kk202 ia202 rfl
theorem i202_12 {xs : List Int32} : xtI (xTa xs) 202 12 = some (.iastore, 1) := x_ins (j := 6) kk202 ia202 rfl
theorem i202_13 {xs : List Int32} : xtI (xTa xs) 202 13 = some (.aload_n 0, 1) := x_ins (j := 7) kk202 ia202 rfl
theorem i202_14 {xs : List Int32} : xtI (xTa xs) 202 14 = some (.dup, 1) := x_ins (j := 8) kk202 ia202 rfl
theorem i202_15 {xs : List Int32} : xtI (xTa xs) 202 15 = some (.getfield 377, 3) := x_ins (j := 9) kk202 ia202 rfl
theorem i202_18 {xs : List Int32} : xtI (xTa xs) 202 18 = some (.iconst 1, 1) := x_ins (j := 10) kk202 ia202 rfl
theorem i202_19 {xs : List Int32} : xtI (xTa xs) 202 19 = some (.iadd, 1) := x_ins (j := 11) kk202 ia202 rfl
theorem i202_20 {xs : List Int32} : xtI (xTa xs) 202 20 = some (.putfield 377, 3) := x_ins (j := 12) kk202 ia202 rfl
theorem i202_23 {xs : List Int32} : xtI (xTa xs) 202 23 = some (.return_, 1) := x_ins (j := 13) kk202 ia202 rfl
