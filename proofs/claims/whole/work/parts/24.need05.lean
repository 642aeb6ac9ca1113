theorem kk203 : xK0.getD 203 [] = k203 := rfl
set_option maxRecDepth 100000 in
theorem ia203 : (k203.all fun e => decide (k203.lookup e.1 = some e.2)) = true := by decide +kernel
theorem i203_0 {xs : List Int32} : xtI (xTa xs) 203 0 = some (.aload_n 0, 1) := x_ins (j := 0) kk203 ia203 rfl
theorem i203_1 {xs : List Int32} : xtI (xTa xs) 203 1 = some (.getfield 116, 3) := x_ins (j := 1) kk203 ia203 rfl
theorem i203_4 {xs : List Int32} : xtI (xTa xs) 203 4 = some (.aload_n 0, 1) := x_ins (j := 2) kk203 ia203 rfl
theorem i203_5 {xs : List Int32} : xtI (xTa xs) 203 5 = some (.getfield 380, 3) := x_ins (j := 3) kk203 ia203 rfl
theorem i203_8 {xs : List Int32} : xtI (xTa xs) 203 8 = some (.iload_n 1, 1) := x_ins (j := 4) kk203 ia203 rfl
theorem i203_9 {xs : List Int32} : xtI (xTa xs) 203 9 = some (.iastore, 1) := x_ins (j := 5) kk203 ia203 rfl
theorem i203_10 {xs : List Int32} : xtI (xTa xs) 203 10 = some (.aload_n 0, 1) := x_ins (j := 6) kk203 ia203 rfl
theorem i203_11 {xs : List Int32} : xtI (xTa xs) 203 11 = some (.dup, 1) := x_ins (j := 7) kk203 ia203 rfl
theorem i203_12 {xs : List Int32} : xtI (xTa xs) 203 12 = some (.getfield 380, 3) := x_ins (j := 8) kk203 ia203 rfl
theorem i203_15 {xs : List Int32} : xtI (xTa xs) 203 15 = some (.iconst 1, 1) := x_ins (j := 9) kk203 ia203 rfl
theorem i203_16 {xs : List Int32} : xtI (xTa xs) 203 16 = some (.iadd, 1) := x_ins (j := 10) kk203 ia203 rfl
theorem i203_17 {xs : List Int32} : xtI (xTa xs) 203 17 = some (.putfield 380, 3) := x_ins (j := 11) kk203 ia203 rfl
theorem i203_20 {xs : List Int32} : xtI (xTa xs) 203 20 = some (.return_, 1) := x_ins (j := 12) kk203 ia203 rfl
theorem kk204 : xK0.getD 204 [] = k204 := rfl
set_option maxRecDepth 100000 in
theorem ia204 : (k204.all fun e => decide (k204.lookup e.1 = some e.2)) = true := by decide +kernel
theorem i204_0 {xs : List Int32} : xtI (xTa xs) 204 0 = some (.iconst 0, 1) := x_ins (j := 0) kk204 ia204 rfl
theorem i204_1 {xs : List Int32} : xtI (xTa xs) 204 1 = some (.istore 4, 2) := x_ins (j := 1) kk204 ia204 rfl
theorem i204_3 {xs : List Int32} : xtI (xTa xs) 204 3 = some (.iload 4, 2) := x_ins (j := 2) kk204 ia204 rfl
theorem i204_5 {xs : List Int32} : xtI (xTa xs) 204 5 = some (.iload_n 3, 1) := x_ins (j := 3) kk204 ia204 rfl
theorem i204_6 {xs : List Int32} : xtI (xTa xs) 204 6 = some (.if_icmp .ge 28, 3) := x_ins (j := 4) kk204 ia204 rfl
theorem i204_9 {xs : List Int32} : xtI (xTa xs) 204 9 = some (.aload_n 0, 1) := x_ins (j := 5) kk204 ia204 rfl
theorem i204_10 {xs : List Int32} : xtI (xTa xs) 204 10 = some (.aload_n 0, 1) := x_ins (j := 6) kk204 ia204 rfl
theorem i204_11 {xs : List Int32} : xtI (xTa xs) 204 11 = some (.getfield 41, 3) := x_ins (j := 7) kk204 ia204 rfl
theorem i204_14 {xs : List Int32} : xtI (xTa xs) 204 14 = some (.sipush 600, 3) := x_ins (j := 8) kk204 ia204 rfl
theorem i204_17 {xs : List Int32} : xtI (xTa xs) 204 17 = some (.iload_n 1, 1) := x_ins (j := 9) kk204 ia204 rfl
theorem i204_18 {xs : List Int32} : xtI (xTa xs) 204 18 = some (.imul, 1) := x_ins (j := 10) kk204 ia204 rfl
theorem i204_19 {xs : List Int32} : xtI (xTa xs) 204 19 = some (.iload_n 2, 1) := x_ins (j := 11) kk204 ia204 rfl
theorem i204_20 {xs : List Int32} : xtI (xTa xs) 204 20 = some (.iadd, 1) := x_ins (j := 12) kk204 ia204 rfl
theorem i204_21 {xs : List Int32} : xtI (xTa xs) 204 21 = some (.iload 4, 2) := x_ins (j := 13) kk204 ia204 rfl
theorem i204_23 {xs : List Int32} : xtI (xTa xs) 204 23 = some (.iadd, 1) := x_ins (j := 14) kk204 ia204 rfl
theorem i204_24 {xs : List Int32} : xtI (xTa xs) 204 24 = some (.iaload, 1) := x_ins (j := 15) kk204 ia204 rfl
theorem i204_25 {xs : List Int32} : xtI (xTa xs) 204 25 = some (.invokevirtual 383, 3) := x_ins (j := 16) kk204 ia204 rfl
theorem i204_28 {xs : List Int32} : xtI (xTa xs) 204 28 = some (.iinc 4 1, 3) := x_ins (j := 17) kk204 ia204 rfl
theorem i204_31 {xs : List Int32} : xtI (xTa xs) 204 31 = some (.goto (-28), 3) := x_ins (j := 18) kk204 ia204 rfl
theorem i204_34 {xs : List Int32} : xtI (xTa xs) 204 34 = some (.return_, 1) := x_ins (j := 19) kk204 ia204 rfl
theorem kk205 : xK0.getD 205 [] = k205 := rfl
set_option maxRecDepth 100000 in
theorem ia205 : (k205.all fun e => decide (k205.lookup e.1 = some e.2)) = true := by decide +kernel
theorem i205_0 {xs : List Int32} : xtI (xTa xs) 205 0 = some (.bipush 40, 2) := x_ins (j := 0) kk205 ia205 rfl
theorem i205_2 {xs : List Int32} : xtI (xTa xs) 205 2 = some (.istore_n 3, 1) := x_ins (j := 1) kk205 ia205 rfl
theorem i205_3 {xs : List Int32} : xtI (xTa xs) 205 3 = some (.iload_n 3, 1) := x_ins (j := 2) kk205 ia205 rfl
theorem i205_4 {xs : List Int32} : xtI (xTa xs) 205 4 = some (.ifCond .lt 30, 3) := x_ins (j := 3) kk205 ia205 rfl
theorem i205_7 {xs : List Int32} : xtI (xTa xs) 205 7 = some (.lload_n 1, 1) := x_ins (j := 4) kk205 ia205 rfl
theorem i205_8 {xs : List Int32} : xtI (xTa xs) 205 8 = some (.iload_n 3, 1) := x_ins (j := 5) kk205 ia205 rfl
theorem i205_9 {xs : List Int32} : xtI (xTa xs) 205 9 = some (.lshr, 1) := x_ins (j := 6) kk205 ia205 rfl
theorem i205_10 {xs : List Int32} : xtI (xTa xs) 205 10 = some (.ldc2_w 230, 3) := x_ins (j := 7) kk205 ia205 rfl
theorem i205_13 {xs : List Int32} : xtI (xTa xs) 205 13 = some (.land, 1) := x_ins (j := 8) kk205 ia205 rfl
theorem i205_14 {xs : List Int32} : xtI (xTa xs) 205 14 = some (.l2i, 1) := x_ins (j := 9) kk205 ia205 rfl
theorem i205_15 {xs : List Int32} : xtI (xTa xs) 205 15 = some (.istore 4, 2) := x_ins (j := 10) kk205 ia205 rfl
theorem i205_17 {xs : List Int32} : xtI (xTa xs) 205 17 = some (.iload 4, 2) := x_ins (j := 11) kk205 ia205 rfl
theorem i205_19 {xs : List Int32} : xtI (xTa xs) 205 19 = some (.ifCond .le 9, 3) := x_ins (j := 12) kk205 ia205 rfl
theorem i205_22 {xs : List Int32} : xtI (xTa xs) 205 22 = some (.aload_n 0, 1) := x_ins (j := 13) kk205 ia205 rfl
theorem i205_23 {xs : List Int32} : xtI (xTa xs) 205 23 = some (.iload 4, 2) := x_ins (j := 14) kk205 ia205 rfl
theorem i205_25 {xs : List Int32} : xtI (xTa xs) 205 25 = some (.invokevirtual 383, 3) := x_ins (j := 15) kk205 ia205 rfl
theorem i205_28 {xs : List Int32} : xtI (xTa xs) 205 28 = some (.iinc 3 (-8), 3) := x_ins (j := 16) kk205 ia205 rfl
theorem i205_31 {xs : List Int32} : xtI (xTa xs) 205 31 = some (.goto (-28), 3) := x_ins (j := 17) kk205 ia205 rfl
theorem i205_34 {xs : List Int32} : xtI (xTa xs) 205 34 = some (.return_, 1) := x_ins (j := 18) kk205 ia205 rfl
theorem kk206 : xK0.getD 206 [] = k206 := rfl
set_option maxRecDepth 100000 in
theorem ia206 : (k206.all fun e => decide (k206.lookup e.1 = some e.2)) = true := by decide +kernel
theorem i206_0 {xs : List Int32} : xtI (xTa xs) 206 0 = some (.aload_n 0, 1) := x_ins (j := 0) kk206 ia206 rfl
theorem i206_1 {xs : List Int32} : xtI (xTa xs) 206 1 = some (.bipush 91, 2) := x_ins (j := 1) kk206 ia206 rfl
theorem i206_3 {xs : List Int32} : xtI (xTa xs) 206 3 = some (.invokevirtual 383, 3) := x_ins (j := 2) kk206 ia206 rfl
theorem i206_6 {xs : List Int32} : xtI (xTa xs) 206 6 = some (.iload_n 1, 1) := x_ins (j := 3) kk206 ia206 rfl
theorem i206_7 {xs : List Int32} : xtI (xTa xs) 206 7 = some (.iconst (-1), 1) := x_ins (j := 4) kk206 ia206 rfl
theorem i206_8 {xs : List Int32} : xtI (xTa xs) 206 8 = some (.if_icmp .ne 12, 3) := x_ins (j := 5) kk206 ia206 rfl
theorem i206_11 {xs : List Int32} : xtI (xTa xs) 206 11 = some (.aload_n 0, 1) := x_ins (j := 6) kk206 ia206 rfl
theorem i206_12 {xs : List Int32} : xtI (xTa xs) 206 12 = some (.bipush 63, 2) := x_ins (j := 7) kk206 ia206 rfl
theorem i206_14 {xs : List Int32} : xtI (xTa xs) 206 14 = some (.invokevirtual 383, 3) := x_ins (j := 8) kk206 ia206 rfl
theorem i206_17 {xs : List Int32} : xtI (xTa xs) 206 17 = some (.goto 88, 3) := x_ins (j := 9) kk206 ia206 rfl
theorem i206_20 {xs : List Int32} : xtI (xTa xs) 206 20 = some (.iconst 0, 1) := x_ins (j := 10) kk206 ia206 rfl
theorem i206_21 {xs : List Int32} : xtI (xTa xs) 206 21 = some (.istore_n 2, 1) := x_ins (j := 11) kk206 ia206 rfl
theorem i206_22 {xs : List Int32} : xtI (xTa xs) 206 22 = some (.iload_n 2, 1) := x_ins (j := 12) kk206 ia206 rfl
theorem i206_23 {xs : List Int32} : xtI (xTa xs) 206 23 = some (.aload_n 0, 1) := x_ins (j := 13) kk206 ia206 rfl
theorem i206_24 {xs : List Int32} : xtI (xTa xs) 206 24 = some (.getfield 386, 3) := x_ins (j := 14) kk206 ia206 rfl
theorem i206_27 {xs : List Int32} : xtI (xTa xs) 206 27 = some (.if_icmp .ge 19, 3) := x_ins (j := 15) kk206 ia206 rfl
theorem i206_30 {xs : List Int32} : xtI (xTa xs) 206 30 = some (.aload_n 0, 1) := x_ins (j := 16) kk206 ia206 rfl
theorem i206_31 {xs : List Int32} : xtI (xTa xs) 206 31 = some (.getfield 104, 3) := x_ins (j := 17) kk206 ia206 rfl
theorem i206_34 {xs : List Int32} : xtI (xTa xs) 206 34 = some (.iload_n 2, 1) := x_ins (j := 18) kk206 ia206 rfl
theorem i206_35 {xs : List Int32} : xtI (xTa xs) 206 35 = some (.iaload, 1) := x_ins (j := 19) kk206 ia206 rfl
theorem i206_36 {xs : List Int32} : xtI (xTa xs) 206 36 = some (.iload_n 1, 1) := x_ins (j := 20) kk206 ia206 rfl
theorem i206_37 {xs : List Int32} : xtI (xTa xs) 206 37 = some (.if_icmp .eq 9, 3) := x_ins (j := 21) kk206 ia206 rfl
theorem i206_40 {xs : List Int32} : xtI (xTa xs) 206 40 = some (.iinc 2 1, 3) := x_ins (j := 22) kk206 ia206 rfl
theorem i206_43 {xs : List Int32} : xtI (xTa xs) 206 43 = some (.goto (-21), 3) := x_ins (j := 23) kk206 ia206 rfl
theorem i206_46 {xs : List Int32} : xtI (xTa xs) 206 46 = some (.iload_n 2, 1) := x_ins (j := 24) kk206 ia206 rfl
theorem i206_47 {xs : List Int32} : xtI (xTa xs) 206 47 = some (.aload_n 0, 1) := x_ins (j := 25) kk206 ia206 rfl
theorem i206_48 {xs : List Int32} : xtI (xTa xs) 206 48 = some (.getfield 386, 3) := x_ins (j := 26) kk206 ia206 rfl
theorem i206_51 {xs : List Int32} : xtI (xTa xs) 206 51 = some (.if_icmp .ne 20, 3) := x_ins (j := 27) kk206 ia206 rfl
theorem i206_54 {xs : List Int32} : xtI (xTa xs) 206 54 = some (.aload_n 0, 1) := x_ins (j := 28) kk206 ia206 rfl
theorem i206_55 {xs : List Int32} : xtI (xTa xs) 206 55 = some (.getfield 104, 3) := x_ins (j := 29) kk206 ia206 rfl
theorem i206_58 {xs : List Int32} : xtI (xTa xs) 206 58 = some (.iload_n 2, 1) := x_ins (j := 30) kk206 ia206 rfl
theorem i206_59 {xs : List Int32} : xtI (xTa xs) 206 59 = some (.iload_n 1, 1) := x_ins (j := 31) kk206 ia206 rfl
theorem i206_60 {xs : List Int32} : xtI (xTa xs) 206 60 = some (.iastore, 1) := x_ins (j := 32) kk206 ia206 rfl
theorem i206_61 {xs : List Int32} : xtI (xTa xs) 206 61 = some (.aload_n 0, 1) := x_ins (j := 33) kk206 ia206 rfl
theorem i206_62 {xs : List Int32} : xtI (xTa xs) 206 62 = some (.dup, 1) := x_ins (j := 34) kk206 ia206 rfl
theorem i206_63 {xs : List Int32} : xtI (xTa xs) 206 63 = some (.getfield 386, 3) := x_ins (j := 35) kk206 ia206 rfl
theorem i206_66 {xs : List Int32} : xtI (xTa xs) 206 66 = some (.iconst 1, 1) := x_ins (j := 36) kk206 ia206 rfl
theorem i206_67 {xs : List Int32} : xtI (xTa xs) 206 67 = some (.iadd, 1) := x_ins (j := 37) kk206 ia206 rfl
theorem i206_68 {xs : List Int32} : xtI (xTa xs) 206 68 = some (.putfield 386, 3) := x_ins (j := 38) kk206 ia206 rfl
theorem i206_71 {xs : List Int32} : xtI (xTa xs) 206 71 = some (.iload_n 2, 1) := x_ins (j := 39) kk206 ia206 rfl
theorem i206_72 {xs : List Int32} : xtI (xTa xs) 206 72 = some (.iconst 1, 1) := x_ins (j := 40) kk206 ia206 rfl
theorem i206_73 {xs : List Int32} : xtI (xTa xs) 206 73 = some (.iadd, 1) := x_ins (j := 41) kk206 ia206 rfl
theorem i206_74 {xs : List Int32} : xtI (xTa xs) 206 74 = some (.bipush 9, 2) := x_ins (j := 42) kk206 ia206 rfl
theorem i206_76 {xs : List Int32} : xtI (xTa xs) 206 76 = some (.if_icmp .le 16, 3) := x_ins (j := 43) kk206 ia206 rfl
theorem i206_79 {xs : List Int32} : xtI (xTa xs) 206 79 = some (.aload_n 0, 1) := x_ins (j := 44) kk206 ia206 rfl
theorem i206_80 {xs : List Int32} : xtI (xTa xs) 206 80 = some (.bipush 48, 2) := x_ins (j := 45) kk206 ia206 rfl
theorem i206_82 {xs : List Int32} : xtI (xTa xs) 206 82 = some (.iload_n 2, 1) := x_ins (j := 46) kk206 ia206 rfl
theorem i206_83 {xs : List Int32} : xtI (xTa xs) 206 83 = some (.iconst 1, 1) := x_ins (j := 47) kk206 ia206 rfl
theorem i206_84 {xs : List Int32} : xtI (xTa xs) 206 84 = some (.iadd, 1) := x_ins (j := 48) kk206 ia206 rfl
theorem i206_85 {xs : List Int32} : xtI (xTa xs) 206 85 = some (.bipush 10, 2) := x_ins (j := 49) kk206 ia206 rfl
theorem i206_87 {xs : List Int32} : xtI (xTa xs) 206 87 = some (.idiv, 1) := x_ins (j := 50) kk206 ia206 rfl
theorem i206_88 {xs : List Int32} : xtI (xTa xs) 206 88 = some (.iadd, 1) := x_ins (j := 51) kk206 ia206 rfl
theorem i206_89 {xs : List Int32} : xtI (xTa xs) 206 89 = some (.invokevirtual 383, 3) := x_ins (j := 52) kk206 ia206 rfl
theorem i206_92 {xs : List Int32} : xtI (xTa xs) 206 92 = some (.aload_n 0, 1) := x_ins (j := 53) kk206 ia206 rfl
theorem i206_93 {xs : List Int32} : xtI (xTa xs) 206 93 = some (.bipush 48, 2) := x_ins (j := 54) kk206 ia206 rfl
theorem i206_95 {xs : List Int32} : xtI (xTa xs) 206 95 = some (.iload_n 2, 1) := x_ins (j := 55) kk206 ia206 rfl
theorem i206_96 {xs : List Int32} : xtI (xTa xs) 206 96 = some (.iconst 1, 1) := x_ins (j := 56) kk206 ia206 rfl
theorem i206_97 {xs : List Int32} : xtI (xTa xs) 206 97 = some (.iadd, 1) := x_ins (j := 57) kk206 ia206 rfl
theorem i206_98 {xs : List Int32} : xtI (xTa xs) 206 98 = some (.bipush 10, 2) := x_ins (j := 58) kk206 ia206 rfl
theorem i206_100 {xs : List Int32} : xtI (xTa xs) 206 100 = some (.irem, 1) := x_ins (j := 59) kk206 ia206 rfl
theorem i206_101 {xs : List Int32} : xtI (xTa xs) 206 101 = some (.iadd, 1) := x_ins (j := 60) kk206 ia206 rfl
theorem i206_102 {xs : List Int32} : xtI (xTa xs) 206 102 = some (.invokevirtual 383, 3) := x_ins (j := 61) kk206 ia206 rfl
theorem i206_105 {xs : List Int32} : xtI (xTa xs) 206 105 = some (.aload_n 0, 1) := x_ins (j := 62) kk206 ia206 rfl
theorem i206_106 {xs : List Int32} : xtI (xTa xs) 206 106 = some (.bipush 93, 2) := x_ins (j := 63) kk206 ia206 rfl
theorem i206_108 {xs : List Int32} : xtI (xTa xs) 206 108 = some (.invokevirtual 383, 3) := x_ins (j := 64) kk206 ia206 rfl
theorem i206_111 {xs : List Int32} : xtI (xTa xs) 206 111 = some (.return_, 1) := x_ins (j := 65) kk206 ia206 rfl
theorem kk207 : xK0.getD 207 [] = k207 := rfl
set_option maxRecDepth 100000 in
theorem ia207 : (k207.all fun e => decide (k207.lookup e.1 = some e.2)) = true := by decide +kernel
theorem i207_0 {xs : List Int32} : xtI (xTa xs) 207 0 = some (.aload_n 0, 1) := x_ins (j := 0) kk207 ia207 rfl
theorem i207_1 {xs : List Int32} : xtI (xTa xs) 207 1 = some (.iconst 0, 1) := x_ins (j := 1) kk207 ia207 rfl
theorem i207_2 {xs : List Int32} : xtI (xTa xs) 207 2 = some (.putfield 380, 3) := x_ins (j := 2) kk207 ia207 rfl
theorem i207_5 {xs : List Int32} : xtI (xTa xs) 207 5 = some (.aload_n 0, 1) := x_ins (j := 3) kk207 ia207 rfl
theorem i207_6 {xs : List Int32} : xtI (xTa xs) 207 6 = some (.iconst 0, 1) := x_ins (j := 4) kk207 ia207 rfl
theorem i207_7 {xs : List Int32} : xtI (xTa xs) 207 7 = some (.putfield 377, 3) := x_ins (j := 5) kk207 ia207 rfl
theorem i207_10 {xs : List Int32} : xtI (xTa xs) 207 10 = some (.aload_n 0, 1) := x_ins (j := 6) kk207 ia207 rfl
theorem i207_11 {xs : List Int32} : xtI (xTa xs) 207 11 = some (.getfield 53, 3) := x_ins (j := 7) kk207 ia207 rfl
theorem i207_14 {xs : List Int32} : xtI (xTa xs) 207 14 = some (.iload_n 2, 1) := x_ins (j := 8) kk207 ia207 rfl
theorem i207_15 {xs : List Int32} : xtI (xTa xs) 207 15 = some (.iaload, 1) := x_ins (j := 9) kk207 ia207 rfl
theorem i207_16 {xs : List Int32} : xtI (xTa xs) 207 16 = some (.istore_n 3, 1) := x_ins (j := 10) kk207 ia207 rfl
theorem i207_17 {xs : List Int32} : xtI (xTa xs) 207 17 = some (.iload_n 3, 1) := x_ins (j := 11) kk207 ia207 rfl
theorem i207_18 {xs : List Int32} : xtI (xTa xs) 207 18 = some (.iconst 1, 1) := x_ins (j := 12) kk207 ia207 rfl
theorem i207_19 {xs : List Int32} : xtI (xTa xs) 207 19 = some (.if_icmp .le 127, 3) := x_ins (j := 13) kk207 ia207 rfl
theorem i207_22 {xs : List Int32} : xtI (xTa xs) 207 22 = some (.aload_n 0, 1) := x_ins (j := 14) kk207 ia207 rfl
theorem i207_23 {xs : List Int32} : xtI (xTa xs) 207 23 = some (.invokevirtual 389, 3) := x_ins (j := 15) kk207 ia207 rfl
theorem i207_26 {xs : List Int32} : xtI (xTa xs) 207 26 = some (.aload_n 0, 1) := x_ins (j := 16) kk207 ia207 rfl
theorem i207_27 {xs : List Int32} : xtI (xTa xs) 207 27 = some (.iload_n 3, 1) := x_ins (j := 17) kk207 ia207 rfl
theorem i207_28 {xs : List Int32} : xtI (xTa xs) 207 28 = some (.iconst 2, 1) := x_ins (j := 18) kk207 ia207 rfl
theorem i207_29 {xs : List Int32} : xtI (xTa xs) 207 29 = some (.if_icmp .ne 9, 3) := x_ins (j := 19) kk207 ia207 rfl
theorem i207_32 {xs : List Int32} : xtI (xTa xs) 207 32 = some (.ldc2_w 319, 3) := x_ins (j := 20) kk207 ia207 rfl
theorem i207_35 {xs : List Int32} : xtI (xTa xs) 207 35 = some (.goto 39, 3) := x_ins (j := 21) kk207 ia207 rfl
theorem i207_38 {xs : List Int32} : xtI (xTa xs) 207 38 = some (.iload_n 3, 1) := x_ins (j := 22) kk207 ia207 rfl
theorem i207_39 {xs : List Int32} : xtI (xTa xs) 207 39 = some (.iconst 3, 1) := x_ins (j := 23) kk207 ia207 rfl
theorem i207_40 {xs : List Int32} : xtI (xTa xs) 207 40 = some (.if_icmp .ne 9, 3) := x_ins (j := 24) kk207 ia207 rfl
theorem i207_43 {xs : List Int32} : xtI (xTa xs) 207 43 = some (.ldc2_w 321, 3) := x_ins (j := 25) kk207 ia207 rfl
theorem i207_46 {xs : List Int32} : xtI (xTa xs) 207 46 = some (.goto 28, 3) := x_ins (j := 26) kk207 ia207 rfl
theorem i207_49 {xs : List Int32} : xtI (xTa xs) 207 49 = some (.iload_n 3, 1) := x_ins (j := 27) kk207 ia207 rfl
theorem i207_50 {xs : List Int32} : xtI (xTa xs) 207 50 = some (.iconst 4, 1) := x_ins (j := 28) kk207 ia207 rfl
theorem i207_51 {xs : List Int32} : xtI (xTa xs) 207 51 = some (.if_icmp .ne 9, 3) := x_ins (j := 29) kk207 ia207 rfl
theorem i207_54 {xs : List Int32} : xtI (xTa xs) 207 54 = some (.ldc2_w 323, 3) := x_ins (j := 30) kk207 ia207 rfl
theorem i207_57 {xs : List Int32} : xtI (xTa xs) 207 57 = some (.goto 17, 3) := x_ins (j := 31) kk207 ia207 rfl
theorem i207_60 {xs : List Int32} : xtI (xTa xs) 207 60 = some (.iload_n 3, 1) := x_ins (j := 32) kk207 ia207 rfl
theorem i207_61 {xs : List Int32} : xtI (xTa xs) 207 61 = some (.iconst 5, 1) := x_ins (j := 33) kk207 ia207 rfl
theorem i207_62 {xs : List Int32} : xtI (xTa xs) 207 62 = some (.if_icmp .ne 9, 3) := x_ins (j := 34) kk207 ia207 rfl
theorem i207_65 {xs : List Int32} : xtI (xTa xs) 207 65 = some (.ldc2_w 325, 3) := x_ins (j := 35) kk207 ia207 rfl
theorem i207_68 {xs : List Int32} : xtI (xTa xs) 207 68 = some (.goto 6, 3) := x_ins (j := 36) kk207 ia207 rfl
theorem i207_71 {xs : List Int32} : xtI (xTa xs) 207 71 = some (.ldc2_w 327, 3) := x_ins (j := 37) kk207 ia207 rfl
theorem i207_74 {xs : List Int32} : xtI (xTa xs) 207 74 = some (.invokevirtual 392, 3) := x_ins (j := 38) kk207 ia207 rfl
theorem i207_77 {xs : List Int32} : xtI (xTa xs) 207 77 = some (.iload_n 3, 1) := x_ins (j := 39) kk207 ia207 rfl
theorem i207_78 {xs : List Int32} : xtI (xTa xs) 207 78 = some (.iconst 3, 1) := x_ins (j := 40) kk207 ia207 rfl
theorem i207_79 {xs : List Int32} : xtI (xTa xs) 207 79 = some (.if_icmp .eq 26, 3) := x_ins (j := 41) kk207 ia207 rfl
theorem i207_82 {xs : List Int32} : xtI (xTa xs) 207 82 = some (.aload_n 0, 1) := x_ins (j := 42) kk207 ia207 rfl
theorem i207_83 {xs : List Int32} : xtI (xTa xs) 207 83 = some (.bipush 32, 2) := x_ins (j := 43) kk207 ia207 rfl
theorem i207_85 {xs : List Int32} : xtI (xTa xs) 207 85 = some (.invokevirtual 383, 3) := x_ins (j := 44) kk207 ia207 rfl
theorem i207_88 {xs : List Int32} : xtI (xTa xs) 207 88 = some (.aload_n 0, 1) := x_ins (j := 45) kk207 ia207 rfl
theorem i207_89 {xs : List Int32} : xtI (xTa xs) 207 89 = some (.iload_n 1, 1) := x_ins (j := 46) kk207 ia207 rfl
theorem i207_90 {xs : List Int32} : xtI (xTa xs) 207 90 = some (.aload_n 0, 1) := x_ins (j := 47) kk207 ia207 rfl
theorem i207_91 {xs : List Int32} : xtI (xTa xs) 207 91 = some (.getfield 68, 3) := x_ins (j := 48) kk207 ia207 rfl
theorem i207_94 {xs : List Int32} : xtI (xTa xs) 207 94 = some (.iload_n 2, 1) := x_ins (j := 49) kk207 ia207 rfl
theorem i207_95 {xs : List Int32} : xtI (xTa xs) 207 95 = some (.iaload, 1) := x_ins (j := 50) kk207 ia207 rfl
theorem i207_96 {xs : List Int32} : xtI (xTa xs) 207 96 = some (.aload_n 0, 1) := x_ins (j := 51) kk207 ia207 rfl
theorem i207_97 {xs : List Int32} : xtI (xTa xs) 207 97 = some (.getfield 71, 3) := x_ins (j := 52) kk207 ia207 rfl
theorem i207_100 {xs : List Int32} : xtI (xTa xs) 207 100 = some (.iload_n 2, 1) := x_ins (j := 53) kk207 ia207 rfl
theorem i207_101 {xs : List Int32} : xtI (xTa xs) 207 101 = some (.iaload, 1) := x_ins (j := 54) kk207 ia207 rfl
theorem i207_102 {xs : List Int32} : xtI (xTa xs) 207 102 = some (.invokevirtual 396, 3) := x_ins (j := 55) kk207 ia207 rfl
theorem i207_105 {xs : List Int32} : xtI (xTa xs) 207 105 = some (.iload_n 3, 1) := x_ins (j := 56) kk207 ia207 rfl
theorem i207_106 {xs : List Int32} : xtI (xTa xs) 207 106 = some (.iconst 4, 1) := x_ins (j := 57) kk207 ia207 rfl
theorem i207_107 {xs : List Int32} : xtI (xTa xs) 207 107 = some (.if_icmp .eq 8, 3) := x_ins (j := 58) kk207 ia207 rfl
theorem i207_110 {xs : List Int32} : xtI (xTa xs) 207 110 = some (.iload_n 3, 1) := x_ins (j := 59) kk207 ia207 rfl
theorem i207_111 {xs : List Int32} : xtI (xTa xs) 207 111 = some (.iconst 5, 1) := x_ins (j := 60) kk207 ia207 rfl
theorem i207_112 {xs : List Int32} : xtI (xTa xs) 207 112 = some (.if_icmp .ne 34, 3) := x_ins (j := 61) kk207 ia207 rfl
theorem i207_115 {xs : List Int32} : xtI (xTa xs) 207 115 = some (.aload_n 0, 1) := x_ins (j := 62) kk207 ia207 rfl
theorem i207_116 {xs : List Int32} : xtI (xTa xs) 207 116 = some (.aload_n 0, 1) := x_ins (j := 63) kk207 ia207 rfl
theorem i207_117 {xs : List Int32} : xtI (xTa xs) 207 117 = some (.iload_n 1, 1) := x_ins (j := 64) kk207 ia207 rfl
theorem i207_118 {xs : List Int32} : xtI (xTa xs) 207 118 = some (.aload_n 0, 1) := x_ins (j := 65) kk207 ia207 rfl
theorem i207_119 {xs : List Int32} : xtI (xTa xs) 207 119 = some (.getfield 41, 3) := x_ins (j := 66) kk207 ia207 rfl
theorem i207_122 {xs : List Int32} : xtI (xTa xs) 207 122 = some (.sipush 600, 3) := x_ins (j := 67) kk207 ia207 rfl
theorem i207_125 {xs : List Int32} : xtI (xTa xs) 207 125 = some (.iload_n 1, 1) := x_ins (j := 68) kk207 ia207 rfl
theorem i207_126 {xs : List Int32} : xtI (xTa xs) 207 126 = some (.imul, 1) := x_ins (j := 69) kk207 ia207 rfl
theorem i207_127 {xs : List Int32} : xtI (xTa xs) 207 127 = some (.aload_n 0, 1) := x_ins (j := 70) kk207 ia207 rfl
theorem i207_128 {xs : List Int32} : xtI (xTa xs) 207 128 = some (.getfield 68, 3) := x_ins (j := 71) kk207 ia207 rfl
theorem i207_131 {xs : List Int32} : xtI (xTa xs) 207 131 = some (.iload_n 2, 1) := x_ins (j := 72) kk207 ia207 rfl
theorem i207_132 {xs : List Int32} : xtI (xTa xs) 207 132 = some (.iaload, 1) := x_ins (j := 73) kk207 ia207 rfl
theorem i207_133 {xs : List Int32} : xtI (xTa xs) 207 133 = some (.iadd, 1) := x_ins (j := 74) kk207 ia207 rfl
theorem i207_134 {xs : List Int32} : xtI (xTa xs) 207 134 = some (.aload_n 0, 1) := x_ins (j := 75) kk207 ia207 rfl
theorem i207_135 {xs : List Int32} : xtI (xTa xs) 207 135 = some (.getfield 71, 3) := x_ins (j := 76) kk207 ia207 rfl
theorem i207_138 {xs : List Int32} : xtI (xTa xs) 207 138 = some (.iload_n 2, 1) := x_ins (j := 77) kk207 ia207 rfl
theorem i207_139 {xs : List Int32} : xtI (xTa xs) 207 139 = some (.iaload, 1) := x_ins (j := 78) kk207 ia207 rfl
theorem i207_140 {xs : List Int32} : xtI (xTa xs) 207 140 = some (.invokevirtual 215, 3) := x_ins (j := 79) kk207 ia207 rfl
theorem i207_143 {xs : List Int32} : xtI (xTa xs) 207 143 = some (.invokevirtual 399, 3) := x_ins (j := 80) kk207 ia207 rfl
theorem i207_146 {xs : List Int32} : xtI (xTa xs) 207 146 = some (.iconst 0, 1) := x_ins (j := 81) kk207 ia207 rfl
theorem i207_147 {xs : List Int32} : xtI (xTa xs) 207 147 = some (.istore 4, 2) := x_ins (j := 82) kk207 ia207 rfl
theorem i207_149 {xs : List Int32} : xtI (xTa xs) 207 149 = some (.iload 4, 2) := x_ins (j := 83) kk207 ia207 rfl
theorem i207_151 {xs : List Int32} : xtI (xTa xs) 207 151 = some (.aload_n 0, 1) := x_ins (j := 84) kk207 ia207 rfl
theorem i207_152 {xs : List Int32} : xtI (xTa xs) 207 152 = some (.getfield 62, 3) := x_ins (j := 85) kk207 ia207 rfl
theorem i207_155 {xs : List Int32} : xtI (xTa xs) 207 155 = some (.iload_n 2, 1) := x_ins (j := 86) kk207 ia207 rfl
theorem i207_156 {xs : List Int32} : xtI (xTa xs) 207 156 = some (.iaload, 1) := x_ins (j := 87) kk207 ia207 rfl
theorem i207_157 {xs : List Int32} : xtI (xTa xs) 207 157 = some (.if_icmp .ge 102, 3) := x_ins (j := 88) kk207 ia207 rfl
theorem i207_160 {xs : List Int32} : xtI (xTa xs) 207 160 = some (.bipush 120, 2) := x_ins (j := 89) kk207 ia207 rfl
theorem i207_162 {xs : List Int32} : xtI (xTa xs) 207 162 = some (.iload_n 1, 1) := x_ins (j := 90) kk207 ia207 rfl
theorem i207_163 {xs : List Int32} : xtI (xTa xs) 207 163 = some (.imul, 1) := x_ins (j := 91) kk207 ia207 rfl
theorem i207_164 {xs : List Int32} : xtI (xTa xs) 207 164 = some (.aload_n 0, 1) := x_ins (j := 92) kk207 ia207 rfl
theorem i207_165 {xs : List Int32} : xtI (xTa xs) 207 165 = some (.getfield 59, 3) := x_ins (j := 93) kk207 ia207 rfl
theorem i207_168 {xs : List Int32} : xtI (xTa xs) 207 168 = some (.iload_n 2, 1) := x_ins (j := 94) kk207 ia207 rfl
theorem i207_169 {xs : List Int32} : xtI (xTa xs) 207 169 = some (.iaload, 1) := x_ins (j := 95) kk207 ia207 rfl
theorem i207_170 {xs : List Int32} : xtI (xTa xs) 207 170 = some (.iadd, 1) := x_ins (j := 96) kk207 ia207 rfl
theorem i207_171 {xs : List Int32} : xtI (xTa xs) 207 171 = some (.iload 4, 2) := x_ins (j := 97) kk207 ia207 rfl
theorem i207_173 {xs : List Int32} : xtI (xTa xs) 207 173 = some (.iadd, 1) := x_ins (j := 98) kk207 ia207 rfl
theorem i207_174 {xs : List Int32} : xtI (xTa xs) 207 174 = some (.istore 5, 2) := x_ins (j := 99) kk207 ia207 rfl
theorem i207_176 {xs : List Int32} : xtI (xTa xs) 207 176 = some (.aload_n 0, 1) := x_ins (j := 100) kk207 ia207 rfl
theorem i207_177 {xs : List Int32} : xtI (xTa xs) 207 177 = some (.getfield 89, 3) := x_ins (j := 101) kk207 ia207 rfl
theorem i207_180 {xs : List Int32} : xtI (xTa xs) 207 180 = some (.iload 5, 2) := x_ins (j := 102) kk207 ia207 rfl
theorem i207_182 {xs : List Int32} : xtI (xTa xs) 207 182 = some (.baload, 1) := x_ins (j := 103) kk207 ia207 rfl
theorem i207_183 {xs : List Int32} : xtI (xTa xs) 207 183 = some (.ifCond .ne 7, 3) := x_ins (j := 104) kk207 ia207 rfl
theorem i207_186 {xs : List Int32} : xtI (xTa xs) 207 186 = some (.aload_n 0, 1) := x_ins (j := 105) kk207 ia207 rfl
theorem i207_187 {xs : List Int32} : xtI (xTa xs) 207 187 = some (.invokevirtual 389, 3) := x_ins (j := 106) kk207 ia207 rfl
theorem i207_190 {xs : List Int32} : xtI (xTa xs) 207 190 = some (.aload_n 0, 1) := x_ins (j := 107) kk207 ia207 rfl
theorem i207_191 {xs : List Int32} : xtI (xTa xs) 207 191 = some (.iload_n 1, 1) := x_ins (j := 108) kk207 ia207 rfl
theorem i207_192 {xs : List Int32} : xtI (xTa xs) 207 192 = some (.aload_n 0, 1) := x_ins (j := 109) kk207 ia207 rfl
theorem i207_193 {xs : List Int32} : xtI (xTa xs) 207 193 = some (.getfield 83, 3) := x_ins (j := 110) kk207 ia207 rfl
theorem i207_196 {xs : List Int32} : xtI (xTa xs) 207 196 = some (.iload 5, 2) := x_ins (j := 111) kk207 ia207 rfl
theorem i207_198 {xs : List Int32} : xtI (xTa xs) 207 198 = some (.iaload, 1) := x_ins (j := 112) kk207 ia207 rfl
theorem i207_199 {xs : List Int32} : xtI (xTa xs) 207 199 = some (.aload_n 0, 1) := x_ins (j := 113) kk207 ia207 rfl
theorem i207_200 {xs : List Int32} : xtI (xTa xs) 207 200 = some (.getfield 86, 3) := x_ins (j := 114) kk207 ia207 rfl
theorem i207_203 {xs : List Int32} : xtI (xTa xs) 207 203 = some (.iload 5, 2) := x_ins (j := 115) kk207 ia207 rfl
theorem i207_205 {xs : List Int32} : xtI (xTa xs) 207 205 = some (.iaload, 1) := x_ins (j := 116) kk207 ia207 rfl
theorem i207_206 {xs : List Int32} : xtI (xTa xs) 207 206 = some (.invokevirtual 396, 3) := x_ins (j := 117) kk207 ia207 rfl
theorem i207_209 {xs : List Int32} : xtI (xTa xs) 207 209 = some (.aload_n 0, 1) := x_ins (j := 118) kk207 ia207 rfl
theorem i207_210 {xs : List Int32} : xtI (xTa xs) 207 210 = some (.getfield 77, 3) := x_ins (j := 119) kk207 ia207 rfl
theorem i207_213 {xs : List Int32} : xtI (xTa xs) 207 213 = some (.iload 5, 2) := x_ins (j := 120) kk207 ia207 rfl
theorem i207_215 {xs : List Int32} : xtI (xTa xs) 207 215 = some (.iaload, 1) := x_ins (j := 121) kk207 ia207 rfl
theorem i207_216 {xs : List Int32} : xtI (xTa xs) 207 216 = some (.iconst 2, 1) := x_ins (j := 122) kk207 ia207 rfl
theorem i207_217 {xs : List Int32} : xtI (xTa xs) 207 217 = some (.if_icmp .ne 36, 3) := x_ins (j := 123) kk207 ia207 rfl
theorem i207_220 {xs : List Int32} : xtI (xTa xs) 207 220 = some (.aload_n 0, 1) := x_ins (j := 124) kk207 ia207 rfl
theorem i207_221 {xs : List Int32} : xtI (xTa xs) 207 221 = some (.aload_n 0, 1) := x_ins (j := 125) kk207 ia207 rfl
theorem i207_222 {xs : List Int32} : xtI (xTa xs) 207 222 = some (.iload_n 1, 1) := x_ins (j := 126) kk207 ia207 rfl
theorem i207_223 {xs : List Int32} : xtI (xTa xs) 207 223 = some (.aload_n 0, 1) := x_ins (j := 127) kk207 ia207 rfl
theorem i207_224 {xs : List Int32} : xtI (xTa xs) 207 224 = some (.getfield 41, 3) := x_ins (j := 128) kk207 ia207 rfl
theorem i207_227 {xs : List Int32} : xtI (xTa xs) 207 227 = some (.sipush 600, 3) := x_ins (j := 129) kk207 ia207 rfl
theorem i207_230 {xs : List Int32} : xtI (xTa xs) 207 230 = some (.iload_n 1, 1) := x_ins (j := 130) kk207 ia207 rfl
theorem i207_231 {xs : List Int32} : xtI (xTa xs) 207 231 = some (.imul, 1) := x_ins (j := 131) kk207 ia207 rfl
theorem i207_232 {xs : List Int32} : xtI (xTa xs) 207 232 = some (.aload_n 0, 1) := x_ins (j := 132) kk207 ia207 rfl
theorem i207_233 {xs : List Int32} : xtI (xTa xs) 207 233 = some (.getfield 92, 3) := x_ins (j := 133) kk207 ia207 rfl
theorem i207_236 {xs : List Int32} : xtI (xTa xs) 207 236 = some (.iload 5, 2) := x_ins (j := 134) kk207 ia207 rfl
theorem i207_238 {xs : List Int32} : xtI (xTa xs) 207 238 = some (.iaload, 1) := x_ins (j := 135) kk207 ia207 rfl
theorem i207_239 {xs : List Int32} : xtI (xTa xs) 207 239 = some (.iadd, 1) := x_ins (j := 136) kk207 ia207 rfl
theorem i207_240 {xs : List Int32} : xtI (xTa xs) 207 240 = some (.aload_n 0, 1) := x_ins (j := 137) kk207 ia207 rfl
theorem i207_241 {xs : List Int32} : xtI (xTa xs) 207 241 = some (.getfield 95, 3) := x_ins (j := 138) kk207 ia207 rfl
theorem i207_244 {xs : List Int32} : xtI (xTa xs) 207 244 = some (.iload 5, 2) := x_ins (j := 139) kk207 ia207 rfl
theorem i207_246 {xs : List Int32} : xtI (xTa xs) 207 246 = some (.iaload, 1) := x_ins (j := 140) kk207 ia207 rfl
theorem i207_247 {xs : List Int32} : xtI (xTa xs) 207 247 = some (.invokevirtual 215, 3) := x_ins (j := 141) kk207 ia207 rfl
theorem i207_250 {xs : List Int32} : xtI (xTa xs) 207 250 = some (.invokevirtual 399, 3) := x_ins (j := 142) kk207 ia207 rfl
theorem i207_253 {xs : List Int32} : xtI (xTa xs) 207 253 = some (.iinc 4 1, 3) := x_ins (j := 143) kk207 ia207 rfl
theorem i207_256 {xs : List Int32} : xtI (xTa xs) 207 256 = some (.goto (-107), 3) := x_ins (j := 144) kk207 ia207 rfl
theorem i207_259 {xs : List Int32} : xtI (xTa xs) 207 259 = some (.return_, 1) := x_ins (j := 145) kk207 ia207 rfl
theorem kk208 : xK0.getD 208 [] = k208 := rfl
set_option maxRecDepth 100000 in
theorem ia208 : (k208.all fun e => decide (k208.lookup e.1 = some e.2)) = true := by decide +kernel
theorem i208_0 {xs : List Int32} : xtI (xTa xs) 208 0 = some (.iload_n 1, 1) := x_ins (j := 0) kk208 ia208 rfl
theorem i208_1 {xs : List Int32} : xtI (xTa xs) 208 1 = some (.iconst 1, 1) := x_ins (j := 1) kk208 ia208 rfl
theorem i208_2 {xs : List Int32} : xtI (xTa xs) 208 2 = some (.iadd, 1) := x_ins (j := 2) kk208 ia208 rfl
theorem i208_3 {xs : List Int32} : xtI (xTa xs) 208 3 = some (.aload_n 0, 1) := x_ins (j := 3) kk208 ia208 rfl
theorem i208_4 {xs : List Int32} : xtI (xTa xs) 208 4 = some (.getfield 377, 3) := x_ins (j := 4) kk208 ia208 rfl
theorem i208_7 {xs : List Int32} : xtI (xTa xs) 208 7 = some (.if_icmp .ge 14, 3) := x_ins (j := 5) kk208 ia208 rfl
theorem i208_10 {xs : List Int32} : xtI (xTa xs) 208 10 = some (.aload_n 0, 1) := x_ins (j := 6) kk208 ia208 rfl
theorem i208_11 {xs : List Int32} : xtI (xTa xs) 208 11 = some (.getfield 119, 3) := x_ins (j := 7) kk208 ia208 rfl
theorem i208_14 {xs : List Int32} : xtI (xTa xs) 208 14 = some (.iload_n 1, 1) := x_ins (j := 8) kk208 ia208 rfl
theorem i208_15 {xs : List Int32} : xtI (xTa xs) 208 15 = some (.iconst 1, 1) := x_ins (j := 9) kk208 ia208 rfl
theorem i208_16 {xs : List Int32} : xtI (xTa xs) 208 16 = some (.iadd, 1) := x_ins (j := 10) kk208 ia208 rfl
theorem i208_17 {xs : List Int32} : xtI (xTa xs) 208 17 = some (.iaload, 1) := x_ins (j := 11) kk208 ia208 rfl
theorem i208_18 {xs : List Int32} : xtI (xTa xs) 208 18 = some (.goto 7, 3) := x_ins (j := 12) kk208 ia208 rfl
theorem i208_21 {xs : List Int32} : xtI (xTa xs) 208 21 = some (.aload_n 0, 1) := x_ins (j := 13) kk208 ia208 rfl
theorem i208_22 {xs : List Int32} : xtI (xTa xs) 208 22 = some (.getfield 380, 3) := x_ins (j := 14) kk208 ia208 rfl
theorem i208_25 {xs : List Int32} : xtI (xTa xs) 208 25 = some (.aload_n 0, 1) := x_ins (j := 15) kk208 ia208 rfl
theorem i208_26 {xs : List Int32} : xtI (xTa xs) 208 26 = some (.getfield 119, 3) := x_ins (j := 16) kk208 ia208 rfl
theorem i208_29 {xs : List Int32} : xtI (xTa xs) 208 29 = some (.iload_n 1, 1) := x_ins (j := 17) kk208 ia208 rfl
theorem i208_30 {xs : List Int32} : xtI (xTa xs) 208 30 = some (.iaload, 1) := x_ins (j := 18) kk208 ia208 rfl
theorem i208_31 {xs : List Int32} : xtI (xTa xs) 208 31 = some (.isub, 1) := x_ins (j := 19) kk208 ia208 rfl
theorem i208_32 {xs : List Int32} : xtI (xTa xs) 208 32 = some (.ireturn, 1) := x_ins (j := 20) kk208 ia208 rfl
theorem kk209 : xK0.getD 209 [] = k209 := rfl
set_option maxRecDepth 100000 in
theorem ia209 : (k209.all fun e => decide (k209.lookup e.1 = some e.2)) = true := by decide +kernel
theorem i209_0 {xs : List Int32} : xtI (xTa xs) 209 0 = some (.iload_n 1, 1) := x_ins (j := 0) kk209 ia209 rfl
theorem i209_1 {xs : List Int32} : xtI (xTa xs) 209 1 = some (.ifCond .ge 7, 3) := x_ins (j := 1) kk209 ia209 rfl
theorem i209_4 {xs : List Int32} : xtI (xTa xs) 209 4 = some (.iconst 0, 1) := x_ins (j := 2) kk209 ia209 rfl
theorem i209_5 {xs : List Int32} : xtI (xTa xs) 209 5 = some (.goto 6, 3) := x_ins (j := 3) kk209 ia209 rfl
theorem i209_8 {xs : List Int32} : xtI (xTa xs) 209 8 = some (.iload_n 1, 1) := x_ins (j := 4) kk209 ia209 rfl
theorem i209_9 {xs : List Int32} : xtI (xTa xs) 209 9 = some (.iload_n 1, 1) := x_ins (j := 5) kk209 ia209 rfl
theorem i209_10 {xs : List Int32} : xtI (xTa xs) 209 10 = some (.imul, 1) := x_ins (j := 6) kk209 ia209 rfl
theorem i209_11 {xs : List Int32} : xtI (xTa xs) 209 11 = some (.ireturn, 1) := x_ins (j := 7) kk209 ia209 rfl
theorem kk210 : xK0.getD 210 [] = k210 := rfl
set_option maxRecDepth 100000 in
theorem ia210 : (k210.all fun e => decide (k210.lookup e.1 = some e.2)) = true := by decide +kernel
theorem i210_0 {xs : List Int32} : xtI (xTa xs) 210 0 = some (.aload_n 0, 1) := x_ins (j := 0) kk210 ia210 rfl
theorem i210_1 {xs : List Int32} : xtI (xTa xs) 210 1 = some (.getfield 125, 3) := x_ins (j := 1) kk210 ia210 rfl
theorem i210_4 {xs : List Int32} : xtI (xTa xs) 210 4 = some (.aload_n 0, 1) := x_ins (j := 2) kk210 ia210 rfl
theorem i210_5 {xs : List Int32} : xtI (xTa xs) 210 5 = some (.getfield 377, 3) := x_ins (j := 3) kk210 ia210 rfl
theorem i210_8 {xs : List Int32} : xtI (xTa xs) 210 8 = some (.iconst 0, 1) := x_ins (j := 4) kk210 ia210 rfl
theorem i210_9 {xs : List Int32} : xtI (xTa xs) 210 9 = some (.iastore, 1) := x_ins (j := 5) kk210 ia210 rfl
theorem i210_10 {xs : List Int32} : xtI (xTa xs) 210 10 = some (.aload_n 0, 1) := x_ins (j := 6) kk210 ia210 rfl
theorem i210_11 {xs : List Int32} : xtI (xTa xs) 210 11 = some (.getfield 377, 3) := x_ins (j := 7) kk210 ia210 rfl
theorem i210_14 {xs : List Int32} : xtI (xTa xs) 210 14 = some (.iconst 1, 1) := x_ins (j := 8) kk210 ia210 rfl
theorem i210_15 {xs : List Int32} : xtI (xTa xs) 210 15 = some (.isub, 1) := x_ins (j := 9) kk210 ia210 rfl
theorem i210_16 {xs : List Int32} : xtI (xTa xs) 210 16 = some (.istore 5, 2) := x_ins (j := 10) kk210 ia210 rfl
theorem i210_18 {xs : List Int32} : xtI (xTa xs) 210 18 = some (.iload 5, 2) := x_ins (j := 11) kk210 ia210 rfl
theorem i210_20 {xs : List Int32} : xtI (xTa xs) 210 20 = some (.ifCond .lt 190, 3) := x_ins (j := 12) kk210 ia210 rfl
theorem i210_23 {xs : List Int32} : xtI (xTa xs) 210 23 = some (.iload 5, 2) := x_ins (j := 13) kk210 ia210 rfl
theorem i210_25 {xs : List Int32} : xtI (xTa xs) 210 25 = some (.ifCond .ne 7, 3) := x_ins (j := 14) kk210 ia210 rfl
theorem i210_28 {xs : List Int32} : xtI (xTa xs) 210 28 = some (.iload_n 2, 1) := x_ins (j := 15) kk210 ia210 rfl
theorem i210_29 {xs : List Int32} : xtI (xTa xs) 210 29 = some (.goto 4, 3) := x_ins (j := 16) kk210 ia210 rfl
theorem i210_32 {xs : List Int32} : xtI (xTa xs) 210 32 = some (.iload_n 3, 1) := x_ins (j := 17) kk210 ia210 rfl
theorem i210_33 {xs : List Int32} : xtI (xTa xs) 210 33 = some (.istore 6, 2) := x_ins (j := 18) kk210 ia210 rfl
theorem i210_35 {xs : List Int32} : xtI (xTa xs) 210 35 = some (.aload_n 0, 1) := x_ins (j := 19) kk210 ia210 rfl
theorem i210_36 {xs : List Int32} : xtI (xTa xs) 210 36 = some (.getfield 122, 3) := x_ins (j := 20) kk210 ia210 rfl
theorem i210_39 {xs : List Int32} : xtI (xTa xs) 210 39 = some (.iload 5, 2) := x_ins (j := 21) kk210 ia210 rfl
theorem i210_41 {xs : List Int32} : xtI (xTa xs) 210 41 = some (.iconst 0, 1) := x_ins (j := 22) kk210 ia210 rfl
theorem i210_42 {xs : List Int32} : xtI (xTa xs) 210 42 = some (.iastore, 1) := x_ins (j := 23) kk210 ia210 rfl
theorem i210_43 {xs : List Int32} : xtI (xTa xs) 210 43 = some (.iconst 1, 1) := x_ins (j := 24) kk210 ia210 rfl
theorem i210_44 {xs : List Int32} : xtI (xTa xs) 210 44 = some (.istore 7, 2) := x_ins (j := 25) kk210 ia210 rfl
theorem i210_46 {xs : List Int32} : xtI (xTa xs) 210 46 = some (.iload 5, 2) := x_ins (j := 26) kk210 ia210 rfl
theorem i210_48 {xs : List Int32} : xtI (xTa xs) 210 48 = some (.istore 8, 2) := x_ins (j := 27) kk210 ia210 rfl
theorem i210_50 {xs : List Int32} : xtI (xTa xs) 210 50 = some (.iload 8, 2) := x_ins (j := 28) kk210 ia210 rfl
theorem i210_52 {xs : List Int32} : xtI (xTa xs) 210 52 = some (.aload_n 0, 1) := x_ins (j := 29) kk210 ia210 rfl
theorem i210_53 {xs : List Int32} : xtI (xTa xs) 210 53 = some (.getfield 377, 3) := x_ins (j := 30) kk210 ia210 rfl
theorem i210_56 {xs : List Int32} : xtI (xTa xs) 210 56 = some (.if_icmp .ge 148, 3) := x_ins (j := 31) kk210 ia210 rfl
theorem i210_59 {xs : List Int32} : xtI (xTa xs) 210 59 = some (.iload 7, 2) := x_ins (j := 32) kk210 ia210 rfl
theorem i210_61 {xs : List Int32} : xtI (xTa xs) 210 61 = some (.ifCond .eq 143, 3) := x_ins (j := 33) kk210 ia210 rfl
theorem i210_64 {xs : List Int32} : xtI (xTa xs) 210 64 = some (.iload 6, 2) := x_ins (j := 34) kk210 ia210 rfl
theorem i210_66 {xs : List Int32} : xtI (xTa xs) 210 66 = some (.aload_n 0, 1) := x_ins (j := 35) kk210 ia210 rfl
theorem i210_67 {xs : List Int32} : xtI (xTa xs) 210 67 = some (.iload 8, 2) := x_ins (j := 36) kk210 ia210 rfl
theorem i210_69 {xs : List Int32} : xtI (xTa xs) 210 69 = some (.invokevirtual 402, 3) := x_ins (j := 37) kk210 ia210 rfl
theorem i210_72 {xs : List Int32} : xtI (xTa xs) 210 72 = some (.iload 8, 2) := x_ins (j := 38) kk210 ia210 rfl
theorem i210_74 {xs : List Int32} : xtI (xTa xs) 210 74 = some (.iload 5, 2) := x_ins (j := 39) kk210 ia210 rfl
theorem i210_76 {xs : List Int32} : xtI (xTa xs) 210 76 = some (.if_icmp .le 7, 3) := x_ins (j := 40) kk210 ia210 rfl
theorem i210_79 {xs : List Int32} : xtI (xTa xs) 210 79 = some (.iconst 1, 1) := x_ins (j := 41) kk210 ia210 rfl
theorem i210_80 {xs : List Int32} : xtI (xTa xs) 210 80 = some (.goto 4, 3) := x_ins (j := 42) kk210 ia210 rfl
theorem i210_83 {xs : List Int32} : xtI (xTa xs) 210 83 = some (.iconst 0, 1) := x_ins (j := 43) kk210 ia210 rfl
theorem i210_84 {xs : List Int32} : xtI (xTa xs) 210 84 = some (.iadd, 1) := x_ins (j := 44) kk210 ia210 rfl
theorem i210_85 {xs : List Int32} : xtI (xTa xs) 210 85 = some (.iadd, 1) := x_ins (j := 45) kk210 ia210 rfl
theorem i210_86 {xs : List Int32} : xtI (xTa xs) 210 86 = some (.istore 6, 2) := x_ins (j := 46) kk210 ia210 rfl
theorem i210_88 {xs : List Int32} : xtI (xTa xs) 210 88 = some (.iload 8, 2) := x_ins (j := 47) kk210 ia210 rfl
theorem i210_90 {xs : List Int32} : xtI (xTa xs) 210 90 = some (.iload 5, 2) := x_ins (j := 48) kk210 ia210 rfl
theorem i210_92 {xs : List Int32} : xtI (xTa xs) 210 92 = some (.if_icmp .eq 9, 3) := x_ins (j := 49) kk210 ia210 rfl
theorem i210_95 {xs : List Int32} : xtI (xTa xs) 210 95 = some (.iload 6, 2) := x_ins (j := 50) kk210 ia210 rfl
theorem i210_97 {xs : List Int32} : xtI (xTa xs) 210 97 = some (.iload_n 1, 1) := x_ins (j := 51) kk210 ia210 rfl
theorem i210_98 {xs : List Int32} : xtI (xTa xs) 210 98 = some (.if_icmp .gt 7, 3) := x_ins (j := 52) kk210 ia210 rfl
theorem i210_101 {xs : List Int32} : xtI (xTa xs) 210 101 = some (.iconst 1, 1) := x_ins (j := 53) kk210 ia210 rfl
theorem i210_102 {xs : List Int32} : xtI (xTa xs) 210 102 = some (.goto 4, 3) := x_ins (j := 54) kk210 ia210 rfl
theorem i210_105 {xs : List Int32} : xtI (xTa xs) 210 105 = some (.iconst 0, 1) := x_ins (j := 55) kk210 ia210 rfl
theorem i210_106 {xs : List Int32} : xtI (xTa xs) 210 106 = some (.istore 7, 2) := x_ins (j := 56) kk210 ia210 rfl
theorem i210_108 {xs : List Int32} : xtI (xTa xs) 210 108 = some (.iload 7, 2) := x_ins (j := 57) kk210 ia210 rfl
theorem i210_110 {xs : List Int32} : xtI (xTa xs) 210 110 = some (.ifCond .eq 88, 3) := x_ins (j := 58) kk210 ia210 rfl
theorem i210_113 {xs : List Int32} : xtI (xTa xs) 210 113 = some (.iload 8, 2) := x_ins (j := 59) kk210 ia210 rfl
theorem i210_115 {xs : List Int32} : xtI (xTa xs) 210 115 = some (.aload_n 0, 1) := x_ins (j := 60) kk210 ia210 rfl
theorem i210_116 {xs : List Int32} : xtI (xTa xs) 210 116 = some (.getfield 377, 3) := x_ins (j := 61) kk210 ia210 rfl
theorem i210_119 {xs : List Int32} : xtI (xTa xs) 210 119 = some (.iconst 1, 1) := x_ins (j := 62) kk210 ia210 rfl
theorem i210_120 {xs : List Int32} : xtI (xTa xs) 210 120 = some (.isub, 1) := x_ins (j := 63) kk210 ia210 rfl
theorem i210_121 {xs : List Int32} : xtI (xTa xs) 210 121 = some (.if_icmp .ne 7, 3) := x_ins (j := 64) kk210 ia210 rfl
theorem i210_124 {xs : List Int32} : xtI (xTa xs) 210 124 = some (.iconst 0, 1) := x_ins (j := 65) kk210 ia210 rfl
theorem i210_125 {xs : List Int32} : xtI (xTa xs) 210 125 = some (.goto 21, 3) := x_ins (j := 66) kk210 ia210 rfl
theorem i210_128 {xs : List Int32} : xtI (xTa xs) 210 128 = some (.aload_n 0, 1) := x_ins (j := 67) kk210 ia210 rfl
theorem i210_129 {xs : List Int32} : xtI (xTa xs) 210 129 = some (.iload_n 1, 1) := x_ins (j := 68) kk210 ia210 rfl
theorem i210_130 {xs : List Int32} : xtI (xTa xs) 210 130 = some (.iload 6, 2) := x_ins (j := 69) kk210 ia210 rfl
theorem i210_132 {xs : List Int32} : xtI (xTa xs) 210 132 = some (.isub, 1) := x_ins (j := 70) kk210 ia210 rfl
theorem i210_133 {xs : List Int32} : xtI (xTa xs) 210 133 = some (.invokevirtual 405, 3) := x_ins (j := 71) kk210 ia210 rfl
theorem i210_136 {xs : List Int32} : xtI (xTa xs) 210 136 = some (.aload_n 0, 1) := x_ins (j := 72) kk210 ia210 rfl
theorem i210_137 {xs : List Int32} : xtI (xTa xs) 210 137 = some (.getfield 125, 3) := x_ins (j := 73) kk210 ia210 rfl
theorem i210_140 {xs : List Int32} : xtI (xTa xs) 210 140 = some (.iload 8, 2) := x_ins (j := 74) kk210 ia210 rfl
theorem i210_142 {xs : List Int32} : xtI (xTa xs) 210 142 = some (.iconst 1, 1) := x_ins (j := 75) kk210 ia210 rfl
theorem i210_143 {xs : List Int32} : xtI (xTa xs) 210 143 = some (.iadd, 1) := x_ins (j := 76) kk210 ia210 rfl
theorem i210_144 {xs : List Int32} : xtI (xTa xs) 210 144 = some (.iaload, 1) := x_ins (j := 77) kk210 ia210 rfl
theorem i210_145 {xs : List Int32} : xtI (xTa xs) 210 145 = some (.iadd, 1) := x_ins (j := 78) kk210 ia210 rfl
theorem i210_146 {xs : List Int32} : xtI (xTa xs) 210 146 = some (.istore 9, 2) := x_ins (j := 79) kk210 ia210 rfl
theorem i210_148 {xs : List Int32} : xtI (xTa xs) 210 148 = some (.iload 4, 2) := x_ins (j := 80) kk210 ia210 rfl
theorem i210_150 {xs : List Int32} : xtI (xTa xs) 210 150 = some (.ifCond .eq 25, 3) := x_ins (j := 81) kk210 ia210 rfl
theorem i210_153 {xs : List Int32} : xtI (xTa xs) 210 153 = some (.aload_n 0, 1) := x_ins (j := 82) kk210 ia210 rfl
theorem i210_154 {xs : List Int32} : xtI (xTa xs) 210 154 = some (.getfield 122, 3) := x_ins (j := 83) kk210 ia210 rfl
theorem i210_157 {xs : List Int32} : xtI (xTa xs) 210 157 = some (.iload 5, 2) := x_ins (j := 84) kk210 ia210 rfl
theorem i210_159 {xs : List Int32} : xtI (xTa xs) 210 159 = some (.iaload, 1) := x_ins (j := 85) kk210 ia210 rfl
theorem i210_160 {xs : List Int32} : xtI (xTa xs) 210 160 = some (.ifCond .eq 15, 3) := x_ins (j := 86) kk210 ia210 rfl
theorem i210_163 {xs : List Int32} : xtI (xTa xs) 210 163 = some (.iload 9, 2) := x_ins (j := 87) kk210 ia210 rfl
theorem i210_165 {xs : List Int32} : xtI (xTa xs) 210 165 = some (.aload_n 0, 1) := x_ins (j := 88) kk210 ia210 rfl
theorem i210_166 {xs : List Int32} : xtI (xTa xs) 210 166 = some (.getfield 125, 3) := x_ins (j := 89) kk210 ia210 rfl
theorem i210_169 {xs : List Int32} : xtI (xTa xs) 210 169 = some (.iload 5, 2) := x_ins (j := 90) kk210 ia210 rfl
theorem i210_171 {xs : List Int32} : xtI (xTa xs) 210 171 = some (.iaload, 1) := x_ins (j := 91) kk210 ia210 rfl
theorem i210_172 {xs : List Int32} : xtI (xTa xs) 210 172 = some (.if_icmp .gt 26, 3) := x_ins (j := 92) kk210 ia210 rfl
theorem i210_175 {xs : List Int32} : xtI (xTa xs) 210 175 = some (.aload_n 0, 1) := x_ins (j := 93) kk210 ia210 rfl
theorem i210_176 {xs : List Int32} : xtI (xTa xs) 210 176 = some (.getfield 122, 3) := x_ins (j := 94) kk210 ia210 rfl
theorem i210_179 {xs : List Int32} : xtI (xTa xs) 210 179 = some (.iload 5, 2) := x_ins (j := 95) kk210 ia210 rfl
theorem i210_181 {xs : List Int32} : xtI (xTa xs) 210 181 = some (.iload 8, 2) := x_ins (j := 96) kk210 ia210 rfl
theorem i210_183 {xs : List Int32} : xtI (xTa xs) 210 183 = some (.iload 5, 2) := x_ins (j := 97) kk210 ia210 rfl
theorem i210_185 {xs : List Int32} : xtI (xTa xs) 210 185 = some (.isub, 1) := x_ins (j := 98) kk210 ia210 rfl
theorem i210_186 {xs : List Int32} : xtI (xTa xs) 210 186 = some (.iconst 1, 1) := x_ins (j := 99) kk210 ia210 rfl
theorem i210_187 {xs : List Int32} : xtI (xTa xs) 210 187 = some (.iadd, 1) := x_ins (j := 100) kk210 ia210 rfl
theorem i210_188 {xs : List Int32} : xtI (xTa xs) 210 188 = some (.iastore, 1) := x_ins (j := 101) kk210 ia210 rfl
theorem i210_189 {xs : List Int32} : xtI (xTa xs) 210 189 = some (.aload_n 0, 1) := x_ins (j := 102) kk210 ia210 rfl
theorem i210_190 {xs : List Int32} : xtI (xTa xs) 210 190 = some (.getfield 125, 3) := x_ins (j := 103) kk210 ia210 rfl
theorem i210_193 {xs : List Int32} : xtI (xTa xs) 210 193 = some (.iload 5, 2) := x_ins (j := 104) kk210 ia210 rfl
theorem i210_195 {xs : List Int32} : xtI (xTa xs) 210 195 = some (.iload 9, 2) := x_ins (j := 105) kk210 ia210 rfl
theorem i210_197 {xs : List Int32} : xtI (xTa xs) 210 197 = some (.iastore, 1) := x_ins (j := 106) kk210 ia210 rfl
theorem i210_198 {xs : List Int32} : xtI (xTa xs) 210 198 = some (.iinc 8 1, 3) := x_ins (j := 107) kk210 ia210 rfl
theorem i210_201 {xs : List Int32} : xtI (xTa xs) 210 201 = some (.goto (-151), 3) := x_ins (j := 108) kk210 ia210 rfl
theorem i210_204 {xs : List Int32} : xtI (xTa xs) 210 204 = some (.iinc 5 (-1), 3) := x_ins (j := 109) kk210 ia210 rfl
theorem i210_207 {xs : List Int32} : xtI (xTa xs) 210 207 = some (.goto (-189), 3) := x_ins (j := 110) kk210 ia210 rfl
theorem i210_210 {xs : List Int32} : xtI (xTa xs) 210 210 = some (.return_, 1) := x_ins (j := 111) kk210 ia210 rfl
theorem kk211 : xK0.getD 211 [] = k211 := rfl
set_option maxRecDepth 100000 in
theorem ia211 : (k211.all fun e => decide (k211.lookup e.1 = some e.2)) = true := by decide +kernel
theorem i211_0 {xs : List Int32} : xtI (xTa xs) 211 0 = some (.aload_n 0, 1) := x_ins (j := 0) kk211 ia211 rfl
theorem i211_1 {xs : List Int32} : xtI (xTa xs) 211 1 = some (.iload_n 1, 1) := x_ins (j := 1) kk211 ia211 rfl
theorem i211_2 {xs : List Int32} : xtI (xTa xs) 211 2 = some (.iload_n 2, 1) := x_ins (j := 2) kk211 ia211 rfl
theorem i211_3 {xs : List Int32} : xtI (xTa xs) 211 3 = some (.invokevirtual 408, 3) := x_ins (j := 3) kk211 ia211 rfl
theorem i211_6 {xs : List Int32} : xtI (xTa xs) 211 6 = some (.aload_n 0, 1) := x_ins (j := 4) kk211 ia211 rfl
theorem i211_7 {xs : List Int32} : xtI (xTa xs) 211 7 = some (.getfield 53, 3) := x_ins (j := 5) kk211 ia211 rfl
theorem i211_10 {xs : List Int32} : xtI (xTa xs) 211 10 = some (.iload_n 2, 1) := x_ins (j := 6) kk211 ia211 rfl
theorem i211_11 {xs : List Int32} : xtI (xTa xs) 211 11 = some (.iaload, 1) := x_ins (j := 7) kk211 ia211 rfl
theorem i211_12 {xs : List Int32} : xtI (xTa xs) 211 12 = some (.iconst 1, 1) := x_ins (j := 8) kk211 ia211 rfl
theorem i211_13 {xs : List Int32} : xtI (xTa xs) 211 13 = some (.if_icmp .ne 7, 3) := x_ins (j := 9) kk211 ia211 rfl
theorem i211_16 {xs : List Int32} : xtI (xTa xs) 211 16 = some (.iconst 1, 1) := x_ins (j := 10) kk211 ia211 rfl
theorem i211_17 {xs : List Int32} : xtI (xTa xs) 211 17 = some (.goto 4, 3) := x_ins (j := 11) kk211 ia211 rfl
theorem i211_20 {xs : List Int32} : xtI (xTa xs) 211 20 = some (.iconst 0, 1) := x_ins (j := 12) kk211 ia211 rfl
theorem i211_21 {xs : List Int32} : xtI (xTa xs) 211 21 = some (.istore 5, 2) := x_ins (j := 13) kk211 ia211 rfl
theorem i211_23 {xs : List Int32} : xtI (xTa xs) 211 23 = some (.iload 5, 2) := x_ins (j := 14) kk211 ia211 rfl
theorem i211_25 {xs : List Int32} : xtI (xTa xs) 211 25 = some (.ifCond .eq 16, 3) := x_ins (j := 15) kk211 ia211 rfl
theorem i211_28 {xs : List Int32} : xtI (xTa xs) 211 28 = some (.iconst 2, 1) := x_ins (j := 16) kk211 ia211 rfl
theorem i211_29 {xs : List Int32} : xtI (xTa xs) 211 29 = some (.aload_n 0, 1) := x_ins (j := 17) kk211 ia211 rfl
theorem i211_30 {xs : List Int32} : xtI (xTa xs) 211 30 = some (.getfield 56, 3) := x_ins (j := 18) kk211 ia211 rfl
theorem i211_33 {xs : List Int32} : xtI (xTa xs) 211 33 = some (.iload_n 2, 1) := x_ins (j := 19) kk211 ia211 rfl
theorem i211_34 {xs : List Int32} : xtI (xTa xs) 211 34 = some (.iaload, 1) := x_ins (j := 20) kk211 ia211 rfl
theorem i211_35 {xs : List Int32} : xtI (xTa xs) 211 35 = some (.imul, 1) := x_ins (j := 21) kk211 ia211 rfl
theorem i211_36 {xs : List Int32} : xtI (xTa xs) 211 36 = some (.iconst 2, 1) := x_ins (j := 22) kk211 ia211 rfl
theorem i211_37 {xs : List Int32} : xtI (xTa xs) 211 37 = some (.iadd, 1) := x_ins (j := 23) kk211 ia211 rfl
theorem i211_38 {xs : List Int32} : xtI (xTa xs) 211 38 = some (.goto 4, 3) := x_ins (j := 24) kk211 ia211 rfl
theorem i211_41 {xs : List Int32} : xtI (xTa xs) 211 41 = some (.iconst 0, 1) := x_ins (j := 25) kk211 ia211 rfl
theorem i211_42 {xs : List Int32} : xtI (xTa xs) 211 42 = some (.istore 6, 2) := x_ins (j := 26) kk211 ia211 rfl
theorem i211_44 {xs : List Int32} : xtI (xTa xs) 211 44 = some (.iload 5, 2) := x_ins (j := 27) kk211 ia211 rfl
theorem i211_46 {xs : List Int32} : xtI (xTa xs) 211 46 = some (.ifCond .eq 8, 3) := x_ins (j := 28) kk211 ia211 rfl
theorem i211_49 {xs : List Int32} : xtI (xTa xs) 211 49 = some (.iload 6, 2) := x_ins (j := 29) kk211 ia211 rfl
theorem i211_51 {xs : List Int32} : xtI (xTa xs) 211 51 = some (.goto 18, 3) := x_ins (j := 30) kk211 ia211 rfl
theorem i211_54 {xs : List Int32} : xtI (xTa xs) 211 54 = some (.aload_n 0, 1) := x_ins (j := 31) kk211 ia211 rfl
theorem i211_55 {xs : List Int32} : xtI (xTa xs) 211 55 = some (.getfield 53, 3) := x_ins (j := 32) kk211 ia211 rfl
theorem i211_58 {xs : List Int32} : xtI (xTa xs) 211 58 = some (.iload_n 2, 1) := x_ins (j := 33) kk211 ia211 rfl
theorem i211_59 {xs : List Int32} : xtI (xTa xs) 211 59 = some (.iaload, 1) := x_ins (j := 34) kk211 ia211 rfl
theorem i211_60 {xs : List Int32} : xtI (xTa xs) 211 60 = some (.iconst 1, 1) := x_ins (j := 35) kk211 ia211 rfl
theorem i211_61 {xs : List Int32} : xtI (xTa xs) 211 61 = some (.if_icmp .le 7, 3) := x_ins (j := 36) kk211 ia211 rfl
theorem i211_64 {xs : List Int32} : xtI (xTa xs) 211 64 = some (.iconst 4, 1) := x_ins (j := 37) kk211 ia211 rfl
theorem i211_65 {xs : List Int32} : xtI (xTa xs) 211 65 = some (.goto 4, 3) := x_ins (j := 38) kk211 ia211 rfl
theorem i211_68 {xs : List Int32} : xtI (xTa xs) 211 68 = some (.iconst 0, 1) := x_ins (j := 39) kk211 ia211 rfl
theorem i211_69 {xs : List Int32} : xtI (xTa xs) 211 69 = some (.istore 7, 2) := x_ins (j := 40) kk211 ia211 rfl
theorem i211_71 {xs : List Int32} : xtI (xTa xs) 211 71 = some (.aload_n 0, 1) := x_ins (j := 41) kk211 ia211 rfl
theorem i211_72 {xs : List Int32} : xtI (xTa xs) 211 72 = some (.iload_n 3, 1) := x_ins (j := 42) kk211 ia211 rfl
theorem i211_73 {xs : List Int32} : xtI (xTa xs) 211 73 = some (.iload 6, 2) := x_ins (j := 43) kk211 ia211 rfl
theorem i211_75 {xs : List Int32} : xtI (xTa xs) 211 75 = some (.iload 7, 2) := x_ins (j := 44) kk211 ia211 rfl
theorem i211_77 {xs : List Int32} : xtI (xTa xs) 211 77 = some (.iload 4, 2) := x_ins (j := 45) kk211 ia211 rfl
theorem i211_79 {xs : List Int32} : xtI (xTa xs) 211 79 = some (.invokevirtual 411, 3) := x_ins (j := 46) kk211 ia211 rfl
theorem i211_82 {xs : List Int32} : xtI (xTa xs) 211 82 = some (.aload_n 0, 1) := x_ins (j := 47) kk211 ia211 rfl
theorem i211_83 {xs : List Int32} : xtI (xTa xs) 211 83 = some (.dup, 1) := x_ins (j := 48) kk211 ia211 rfl
theorem i211_84 {xs : List Int32} : xtI (xTa xs) 211 84 = some (.getfield 415, 3) := x_ins (j := 49) kk211 ia211 rfl
theorem i211_87 {xs : List Int32} : xtI (xTa xs) 211 87 = some (.aload_n 0, 1) := x_ins (j := 50) kk211 ia211 rfl
theorem i211_88 {xs : List Int32} : xtI (xTa xs) 211 88 = some (.getfield 125, 3) := x_ins (j := 51) kk211 ia211 rfl
theorem i211_91 {xs : List Int32} : xtI (xTa xs) 211 91 = some (.iconst 0, 1) := x_ins (j := 52) kk211 ia211 rfl
theorem i211_92 {xs : List Int32} : xtI (xTa xs) 211 92 = some (.iaload, 1) := x_ins (j := 53) kk211 ia211 rfl
theorem i211_93 {xs : List Int32} : xtI (xTa xs) 211 93 = some (.iadd, 1) := x_ins (j := 54) kk211 ia211 rfl
theorem i211_94 {xs : List Int32} : xtI (xTa xs) 211 94 = some (.putfield 415, 3) := x_ins (j := 55) kk211 ia211 rfl
theorem i211_97 {xs : List Int32} : xtI (xTa xs) 211 97 = some (.iconst 0, 1) := x_ins (j := 56) kk211 ia211 rfl
theorem i211_98 {xs : List Int32} : xtI (xTa xs) 211 98 = some (.istore 8, 2) := x_ins (j := 57) kk211 ia211 rfl
theorem i211_100 {xs : List Int32} : xtI (xTa xs) 211 100 = some (.iconst 1, 1) := x_ins (j := 58) kk211 ia211 rfl
theorem i211_101 {xs : List Int32} : xtI (xTa xs) 211 101 = some (.istore 9, 2) := x_ins (j := 59) kk211 ia211 rfl
theorem i211_103 {xs : List Int32} : xtI (xTa xs) 211 103 = some (.iload 9, 2) := x_ins (j := 60) kk211 ia211 rfl
theorem i211_105 {xs : List Int32} : xtI (xTa xs) 211 105 = some (.ifCond .ne 12, 3) := x_ins (j := 61) kk211 ia211 rfl
theorem i211_108 {xs : List Int32} : xtI (xTa xs) 211 108 = some (.iload 8, 2) := x_ins (j := 62) kk211 ia211 rfl
theorem i211_110 {xs : List Int32} : xtI (xTa xs) 211 110 = some (.aload_n 0, 1) := x_ins (j := 63) kk211 ia211 rfl
theorem i211_111 {xs : List Int32} : xtI (xTa xs) 211 111 = some (.getfield 377, 3) := x_ins (j := 64) kk211 ia211 rfl
theorem i211_114 {xs : List Int32} : xtI (xTa xs) 211 114 = some (.if_icmp .ge 228, 3) := x_ins (j := 65) kk211 ia211 rfl
theorem i211_117 {xs : List Int32} : xtI (xTa xs) 211 117 = some (.aload_n 0, 1) := x_ins (j := 66) kk211 ia211 rfl
theorem i211_118 {xs : List Int32} : xtI (xTa xs) 211 118 = some (.invokevirtual 368, 3) := x_ins (j := 67) kk211 ia211 rfl
theorem i211_121 {xs : List Int32} : xtI (xTa xs) 211 121 = some (.iload 9, 2) := x_ins (j := 68) kk211 ia211 rfl
theorem i211_123 {xs : List Int32} : xtI (xTa xs) 211 123 = some (.ifCond .eq 8, 3) := x_ins (j := 69) kk211 ia211 rfl
theorem i211_126 {xs : List Int32} : xtI (xTa xs) 211 126 = some (.iload 6, 2) := x_ins (j := 70) kk211 ia211 rfl
theorem i211_128 {xs : List Int32} : xtI (xTa xs) 211 128 = some (.goto 5, 3) := x_ins (j := 71) kk211 ia211 rfl
theorem i211_131 {xs : List Int32} : xtI (xTa xs) 211 131 = some (.iload 7, 2) := x_ins (j := 72) kk211 ia211 rfl
theorem i211_133 {xs : List Int32} : xtI (xTa xs) 211 133 = some (.istore 10, 2) := x_ins (j := 73) kk211 ia211 rfl
theorem i211_135 {xs : List Int32} : xtI (xTa xs) 211 135 = some (.iconst 0, 1) := x_ins (j := 74) kk211 ia211 rfl
theorem i211_136 {xs : List Int32} : xtI (xTa xs) 211 136 = some (.istore 11, 2) := x_ins (j := 75) kk211 ia211 rfl
theorem i211_138 {xs : List Int32} : xtI (xTa xs) 211 138 = some (.iload 11, 2) := x_ins (j := 76) kk211 ia211 rfl
theorem i211_140 {xs : List Int32} : xtI (xTa xs) 211 140 = some (.iload 10, 2) := x_ins (j := 77) kk211 ia211 rfl
theorem i211_142 {xs : List Int32} : xtI (xTa xs) 211 142 = some (.if_icmp .ge 89, 3) := x_ins (j := 78) kk211 ia211 rfl
theorem i211_145 {xs : List Int32} : xtI (xTa xs) 211 145 = some (.iload 5, 2) := x_ins (j := 79) kk211 ia211 rfl
theorem i211_147 {xs : List Int32} : xtI (xTa xs) 211 147 = some (.ifCond .eq 21, 3) := x_ins (j := 80) kk211 ia211 rfl
theorem i211_150 {xs : List Int32} : xtI (xTa xs) 211 150 = some (.iload 9, 2) := x_ins (j := 81) kk211 ia211 rfl
theorem i211_152 {xs : List Int32} : xtI (xTa xs) 211 152 = some (.ifCond .eq 16, 3) := x_ins (j := 82) kk211 ia211 rfl
theorem i211_155 {xs : List Int32} : xtI (xTa xs) 211 155 = some (.iload 11, 2) := x_ins (j := 83) kk211 ia211 rfl
theorem i211_157 {xs : List Int32} : xtI (xTa xs) 211 157 = some (.iload 10, 2) := x_ins (j := 84) kk211 ia211 rfl
theorem i211_159 {xs : List Int32} : xtI (xTa xs) 211 159 = some (.iconst 2, 1) := x_ins (j := 85) kk211 ia211 rfl
theorem i211_160 {xs : List Int32} : xtI (xTa xs) 211 160 = some (.isub, 1) := x_ins (j := 86) kk211 ia211 rfl
theorem i211_161 {xs : List Int32} : xtI (xTa xs) 211 161 = some (.if_icmp .ne 7, 3) := x_ins (j := 87) kk211 ia211 rfl
theorem i211_164 {xs : List Int32} : xtI (xTa xs) 211 164 = some (.iconst 1, 1) := x_ins (j := 88) kk211 ia211 rfl
theorem i211_165 {xs : List Int32} : xtI (xTa xs) 211 165 = some (.goto 4, 3) := x_ins (j := 89) kk211 ia211 rfl
theorem i211_168 {xs : List Int32} : xtI (xTa xs) 211 168 = some (.iconst 0, 1) := x_ins (j := 90) kk211 ia211 rfl
theorem i211_169 {xs : List Int32} : xtI (xTa xs) 211 169 = some (.istore 12, 2) := x_ins (j := 91) kk211 ia211 rfl
theorem i211_171 {xs : List Int32} : xtI (xTa xs) 211 171 = some (.iload 5, 2) := x_ins (j := 92) kk211 ia211 rfl
theorem i211_173 {xs : List Int32} : xtI (xTa xs) 211 173 = some (.ifCond .eq 28, 3) := x_ins (j := 93) kk211 ia211 rfl
theorem i211_176 {xs : List Int32} : xtI (xTa xs) 211 176 = some (.iload 9, 2) := x_ins (j := 94) kk211 ia211 rfl
theorem i211_178 {xs : List Int32} : xtI (xTa xs) 211 178 = some (.ifCond .eq 23, 3) := x_ins (j := 95) kk211 ia211 rfl
theorem i211_181 {xs : List Int32} : xtI (xTa xs) 211 181 = some (.iload 11, 2) := x_ins (j := 96) kk211 ia211 rfl
theorem i211_183 {xs : List Int32} : xtI (xTa xs) 211 183 = some (.iload 10, 2) := x_ins (j := 97) kk211 ia211 rfl
theorem i211_185 {xs : List Int32} : xtI (xTa xs) 211 185 = some (.iconst 1, 1) := x_ins (j := 98) kk211 ia211 rfl
theorem i211_186 {xs : List Int32} : xtI (xTa xs) 211 186 = some (.isub, 1) := x_ins (j := 99) kk211 ia211 rfl
theorem i211_187 {xs : List Int32} : xtI (xTa xs) 211 187 = some (.if_icmp .ne 14, 3) := x_ins (j := 100) kk211 ia211 rfl
theorem i211_190 {xs : List Int32} : xtI (xTa xs) 211 190 = some (.aload_n 0, 1) := x_ins (j := 101) kk211 ia211 rfl
theorem i211_191 {xs : List Int32} : xtI (xTa xs) 211 191 = some (.getfield 377, 3) := x_ins (j := 102) kk211 ia211 rfl
theorem i211_194 {xs : List Int32} : xtI (xTa xs) 211 194 = some (.ifCond .ne 7, 3) := x_ins (j := 103) kk211 ia211 rfl
theorem i211_197 {xs : List Int32} : xtI (xTa xs) 211 197 = some (.iconst 1, 1) := x_ins (j := 104) kk211 ia211 rfl
theorem i211_198 {xs : List Int32} : xtI (xTa xs) 211 198 = some (.goto 4, 3) := x_ins (j := 105) kk211 ia211 rfl
theorem i211_201 {xs : List Int32} : xtI (xTa xs) 211 201 = some (.iconst 0, 1) := x_ins (j := 106) kk211 ia211 rfl
theorem i211_202 {xs : List Int32} : xtI (xTa xs) 211 202 = some (.istore 13, 2) := x_ins (j := 107) kk211 ia211 rfl
theorem i211_204 {xs : List Int32} : xtI (xTa xs) 211 204 = some (.iload 13, 2) := x_ins (j := 108) kk211 ia211 rfl
theorem i211_206 {xs : List Int32} : xtI (xTa xs) 211 206 = some (.ifCond .ne 19, 3) := x_ins (j := 109) kk211 ia211 rfl
theorem i211_209 {xs : List Int32} : xtI (xTa xs) 211 209 = some (.aload_n 0, 1) := x_ins (j := 110) kk211 ia211 rfl
theorem i211_210 {xs : List Int32} : xtI (xTa xs) 211 210 = some (.iload 12, 2) := x_ins (j := 111) kk211 ia211 rfl
theorem i211_212 {xs : List Int32} : xtI (xTa xs) 211 212 = some (.ifCond .eq 8, 3) := x_ins (j := 112) kk211 ia211 rfl
theorem i211_215 {xs : List Int32} : xtI (xTa xs) 211 215 = some (.bipush 45, 2) := x_ins (j := 113) kk211 ia211 rfl
theorem i211_217 {xs : List Int32} : xtI (xTa xs) 211 217 = some (.goto 5, 3) := x_ins (j := 114) kk211 ia211 rfl
theorem i211_220 {xs : List Int32} : xtI (xTa xs) 211 220 = some (.bipush 32, 2) := x_ins (j := 115) kk211 ia211 rfl
theorem i211_222 {xs : List Int32} : xtI (xTa xs) 211 222 = some (.invokevirtual 359, 3) := x_ins (j := 116) kk211 ia211 rfl
theorem i211_225 {xs : List Int32} : xtI (xTa xs) 211 225 = some (.iinc 11 1, 3) := x_ins (j := 117) kk211 ia211 rfl
theorem i211_228 {xs : List Int32} : xtI (xTa xs) 211 228 = some (.goto (-90), 3) := x_ins (j := 118) kk211 ia211 rfl
theorem i211_231 {xs : List Int32} : xtI (xTa xs) 211 231 = some (.iload 8, 2) := x_ins (j := 119) kk211 ia211 rfl
theorem i211_233 {xs : List Int32} : xtI (xTa xs) 211 233 = some (.aload_n 0, 1) := x_ins (j := 120) kk211 ia211 rfl
theorem i211_234 {xs : List Int32} : xtI (xTa xs) 211 234 = some (.getfield 377, 3) := x_ins (j := 121) kk211 ia211 rfl
theorem i211_237 {xs : List Int32} : xtI (xTa xs) 211 237 = some (.if_icmp .ge 13, 3) := x_ins (j := 122) kk211 ia211 rfl
theorem i211_240 {xs : List Int32} : xtI (xTa xs) 211 240 = some (.aload_n 0, 1) := x_ins (j := 123) kk211 ia211 rfl
theorem i211_241 {xs : List Int32} : xtI (xTa xs) 211 241 = some (.getfield 122, 3) := x_ins (j := 124) kk211 ia211 rfl
theorem i211_244 {xs : List Int32} : xtI (xTa xs) 211 244 = some (.iload 8, 2) := x_ins (j := 125) kk211 ia211 rfl
theorem i211_246 {xs : List Int32} : xtI (xTa xs) 211 246 = some (.iaload, 1) := x_ins (j := 126) kk211 ia211 rfl
theorem i211_247 {xs : List Int32} : xtI (xTa xs) 211 247 = some (.goto 4, 3) := x_ins (j := 127) kk211 ia211 rfl
theorem i211_250 {xs : List Int32} : xtI (xTa xs) 211 250 = some (.iconst 0, 1) := x_ins (j := 128) kk211 ia211 rfl
theorem i211_251 {xs : List Int32} : xtI (xTa xs) 211 251 = some (.istore 11, 2) := x_ins (j := 129) kk211 ia211 rfl
theorem i211_253 {xs : List Int32} : xtI (xTa xs) 211 253 = some (.iload 8, 2) := x_ins (j := 130) kk211 ia211 rfl
theorem i211_255 {xs : List Int32} : xtI (xTa xs) 211 255 = some (.istore 12, 2) := x_ins (j := 131) kk211 ia211 rfl
theorem i211_257 {xs : List Int32} : xtI (xTa xs) 211 257 = some (.iload 12, 2) := x_ins (j := 132) kk211 ia211 rfl
theorem i211_259 {xs : List Int32} : xtI (xTa xs) 211 259 = some (.iload 8, 2) := x_ins (j := 133) kk211 ia211 rfl
theorem i211_261 {xs : List Int32} : xtI (xTa xs) 211 261 = some (.iload 11, 2) := x_ins (j := 134) kk211 ia211 rfl
theorem i211_263 {xs : List Int32} : xtI (xTa xs) 211 263 = some (.iadd, 1) := x_ins (j := 135) kk211 ia211 rfl
theorem i211_264 {xs : List Int32} : xtI (xTa xs) 211 264 = some (.if_icmp .ge 61, 3) := x_ins (j := 136) kk211 ia211 rfl
theorem i211_267 {xs : List Int32} : xtI (xTa xs) 211 267 = some (.iload 12, 2) := x_ins (j := 137) kk211 ia211 rfl
theorem i211_269 {xs : List Int32} : xtI (xTa xs) 211 269 = some (.iload 8, 2) := x_ins (j := 138) kk211 ia211 rfl
theorem i211_271 {xs : List Int32} : xtI (xTa xs) 211 271 = some (.if_icmp .le 9, 3) := x_ins (j := 139) kk211 ia211 rfl
theorem i211_274 {xs : List Int32} : xtI (xTa xs) 211 274 = some (.aload_n 0, 1) := x_ins (j := 140) kk211 ia211 rfl
theorem i211_275 {xs : List Int32} : xtI (xTa xs) 211 275 = some (.bipush 32, 2) := x_ins (j := 141) kk211 ia211 rfl
theorem i211_277 {xs : List Int32} : xtI (xTa xs) 211 277 = some (.invokevirtual 359, 3) := x_ins (j := 142) kk211 ia211 rfl
theorem i211_280 {xs : List Int32} : xtI (xTa xs) 211 280 = some (.iconst 0, 1) := x_ins (j := 143) kk211 ia211 rfl
theorem i211_281 {xs : List Int32} : xtI (xTa xs) 211 281 = some (.istore 13, 2) := x_ins (j := 144) kk211 ia211 rfl
theorem i211_283 {xs : List Int32} : xtI (xTa xs) 211 283 = some (.iload 13, 2) := x_ins (j := 145) kk211 ia211 rfl
theorem i211_285 {xs : List Int32} : xtI (xTa xs) 211 285 = some (.aload_n 0, 1) := x_ins (j := 146) kk211 ia211 rfl
theorem i211_286 {xs : List Int32} : xtI (xTa xs) 211 286 = some (.iload 12, 2) := x_ins (j := 147) kk211 ia211 rfl
theorem i211_288 {xs : List Int32} : xtI (xTa xs) 211 288 = some (.invokevirtual 402, 3) := x_ins (j := 148) kk211 ia211 rfl
theorem i211_291 {xs : List Int32} : xtI (xTa xs) 211 291 = some (.if_icmp .ge 28, 3) := x_ins (j := 149) kk211 ia211 rfl
theorem i211_294 {xs : List Int32} : xtI (xTa xs) 211 294 = some (.aload_n 0, 1) := x_ins (j := 150) kk211 ia211 rfl
theorem i211_295 {xs : List Int32} : xtI (xTa xs) 211 295 = some (.aload_n 0, 1) := x_ins (j := 151) kk211 ia211 rfl
theorem i211_296 {xs : List Int32} : xtI (xTa xs) 211 296 = some (.getfield 116, 3) := x_ins (j := 152) kk211 ia211 rfl
theorem i211_299 {xs : List Int32} : xtI (xTa xs) 211 299 = some (.aload_n 0, 1) := x_ins (j := 153) kk211 ia211 rfl
theorem i211_300 {xs : List Int32} : xtI (xTa xs) 211 300 = some (.getfield 119, 3) := x_ins (j := 154) kk211 ia211 rfl
theorem i211_303 {xs : List Int32} : xtI (xTa xs) 211 303 = some (.iload 12, 2) := x_ins (j := 155) kk211 ia211 rfl
theorem i211_305 {xs : List Int32} : xtI (xTa xs) 211 305 = some (.iaload, 1) := x_ins (j := 156) kk211 ia211 rfl
theorem i211_306 {xs : List Int32} : xtI (xTa xs) 211 306 = some (.iload 13, 2) := x_ins (j := 157) kk211 ia211 rfl
theorem i211_308 {xs : List Int32} : xtI (xTa xs) 211 308 = some (.iadd, 1) := x_ins (j := 158) kk211 ia211 rfl
theorem i211_309 {xs : List Int32} : xtI (xTa xs) 211 309 = some (.iaload, 1) := x_ins (j := 159) kk211 ia211 rfl
theorem i211_310 {xs : List Int32} : xtI (xTa xs) 211 310 = some (.invokevirtual 359, 3) := x_ins (j := 160) kk211 ia211 rfl
theorem i211_313 {xs : List Int32} : xtI (xTa xs) 211 313 = some (.iinc 13 1, 3) := x_ins (j := 161) kk211 ia211 rfl
theorem i211_316 {xs : List Int32} : xtI (xTa xs) 211 316 = some (.goto (-33), 3) := x_ins (j := 162) kk211 ia211 rfl
theorem i211_319 {xs : List Int32} : xtI (xTa xs) 211 319 = some (.iinc 12 1, 3) := x_ins (j := 163) kk211 ia211 rfl
theorem i211_322 {xs : List Int32} : xtI (xTa xs) 211 322 = some (.goto (-65), 3) := x_ins (j := 164) kk211 ia211 rfl
theorem i211_325 {xs : List Int32} : xtI (xTa xs) 211 325 = some (.aload_n 0, 1) := x_ins (j := 165) kk211 ia211 rfl
theorem i211_326 {xs : List Int32} : xtI (xTa xs) 211 326 = some (.invokevirtual 371, 3) := x_ins (j := 166) kk211 ia211 rfl
theorem i211_329 {xs : List Int32} : xtI (xTa xs) 211 329 = some (.iload 8, 2) := x_ins (j := 167) kk211 ia211 rfl
theorem i211_331 {xs : List Int32} : xtI (xTa xs) 211 331 = some (.iload 11, 2) := x_ins (j := 168) kk211 ia211 rfl
theorem i211_333 {xs : List Int32} : xtI (xTa xs) 211 333 = some (.iadd, 1) := x_ins (j := 169) kk211 ia211 rfl
theorem i211_334 {xs : List Int32} : xtI (xTa xs) 211 334 = some (.istore 8, 2) := x_ins (j := 170) kk211 ia211 rfl
theorem i211_336 {xs : List Int32} : xtI (xTa xs) 211 336 = some (.iconst 0, 1) := x_ins (j := 171) kk211 ia211 rfl
theorem i211_337 {xs : List Int32} : xtI (xTa xs) 211 337 = some (.istore 9, 2) := x_ins (j := 172) kk211 ia211 rfl
theorem i211_339 {xs : List Int32} : xtI (xTa xs) 211 339 = some (.goto (-236), 3) := x_ins (j := 173) kk211 ia211 rfl
theorem i211_342 {xs : List Int32} : xtI (xTa xs) 211 342 = some (.return_, 1) := x_ins (j := 174) kk211 ia211 rfl
theorem kk212 : xK0.getD 212 [] = k212 := rfl
set_option maxRecDepth 100000 in
theorem ia212 : (k212.all fun e => decide (k212.lookup e.1 = some e.2)) = true := by decide +kernel
theorem i212_0 {xs : List Int32} : xtI (xTa xs) 212 0 = some (.aload_n 0, 1) := x_ins (j := 0) kk212 ia212 rfl
theorem i212_1 {xs : List Int32} : xtI (xTa xs) 212 1 = some (.iconst 0, 1) := x_ins (j := 1) kk212 ia212 rfl
theorem i212_2 {xs : List Int32} : xtI (xTa xs) 212 2 = some (.putfield 418, 3) := x_ins (j := 2) kk212 ia212 rfl
theorem i212_5 {xs : List Int32} : xtI (xTa xs) 212 5 = some (.iconst 1, 1) := x_ins (j := 3) kk212 ia212 rfl
theorem i212_6 {xs : List Int32} : xtI (xTa xs) 212 6 = some (.istore_n 2, 1) := x_ins (j := 4) kk212 ia212 rfl
theorem i212_7 {xs : List Int32} : xtI (xTa xs) 212 7 = some (.aload_n 0, 1) := x_ins (j := 5) kk212 ia212 rfl
theorem i212_8 {xs : List Int32} : xtI (xTa xs) 212 8 = some (.getfield 134, 3) := x_ins (j := 6) kk212 ia212 rfl
theorem i212_11 {xs : List Int32} : xtI (xTa xs) 212 11 = some (.iconst 0, 1) := x_ins (j := 7) kk212 ia212 rfl
theorem i212_12 {xs : List Int32} : xtI (xTa xs) 212 12 = some (.iload_n 1, 1) := x_ins (j := 8) kk212 ia212 rfl
theorem i212_13 {xs : List Int32} : xtI (xTa xs) 212 13 = some (.iastore, 1) := x_ins (j := 9) kk212 ia212 rfl
theorem i212_14 {xs : List Int32} : xtI (xTa xs) 212 14 = some (.aload_n 0, 1) := x_ins (j := 10) kk212 ia212 rfl
theorem i212_15 {xs : List Int32} : xtI (xTa xs) 212 15 = some (.getfield 137, 3) := x_ins (j := 11) kk212 ia212 rfl
theorem i212_18 {xs : List Int32} : xtI (xTa xs) 212 18 = some (.iconst 0, 1) := x_ins (j := 12) kk212 ia212 rfl
theorem i212_19 {xs : List Int32} : xtI (xTa xs) 212 19 = some (.iconst 0, 1) := x_ins (j := 13) kk212 ia212 rfl
theorem i212_20 {xs : List Int32} : xtI (xTa xs) 212 20 = some (.iastore, 1) := x_ins (j := 14) kk212 ia212 rfl
theorem i212_21 {xs : List Int32} : xtI (xTa xs) 212 21 = some (.iload_n 2, 1) := x_ins (j := 15) kk212 ia212 rfl
theorem i212_22 {xs : List Int32} : xtI (xTa xs) 212 22 = some (.ifCond .le 164, 3) := x_ins (j := 16) kk212 ia212 rfl
theorem i212_25 {xs : List Int32} : xtI (xTa xs) 212 25 = some (.aload_n 0, 1) := x_ins (j := 17) kk212 ia212 rfl
theorem i212_26 {xs : List Int32} : xtI (xTa xs) 212 26 = some (.getfield 134, 3) := x_ins (j := 18) kk212 ia212 rfl
theorem i212_29 {xs : List Int32} : xtI (xTa xs) 212 29 = some (.iload_n 2, 1) := x_ins (j := 19) kk212 ia212 rfl
theorem i212_30 {xs : List Int32} : xtI (xTa xs) 212 30 = some (.iconst 1, 1) := x_ins (j := 20) kk212 ia212 rfl
theorem i212_31 {xs : List Int32} : xtI (xTa xs) 212 31 = some (.isub, 1) := x_ins (j := 21) kk212 ia212 rfl
theorem i212_32 {xs : List Int32} : xtI (xTa xs) 212 32 = some (.iaload, 1) := x_ins (j := 22) kk212 ia212 rfl
theorem i212_33 {xs : List Int32} : xtI (xTa xs) 212 33 = some (.istore_n 3, 1) := x_ins (j := 23) kk212 ia212 rfl
theorem i212_34 {xs : List Int32} : xtI (xTa xs) 212 34 = some (.aload_n 0, 1) := x_ins (j := 24) kk212 ia212 rfl
theorem i212_35 {xs : List Int32} : xtI (xTa xs) 212 35 = some (.getfield 137, 3) := x_ins (j := 25) kk212 ia212 rfl
theorem i212_38 {xs : List Int32} : xtI (xTa xs) 212 38 = some (.iload_n 2, 1) := x_ins (j := 26) kk212 ia212 rfl
theorem i212_39 {xs : List Int32} : xtI (xTa xs) 212 39 = some (.iconst 1, 1) := x_ins (j := 27) kk212 ia212 rfl
theorem i212_40 {xs : List Int32} : xtI (xTa xs) 212 40 = some (.isub, 1) := x_ins (j := 28) kk212 ia212 rfl
theorem i212_41 {xs : List Int32} : xtI (xTa xs) 212 41 = some (.iaload, 1) := x_ins (j := 29) kk212 ia212 rfl
theorem i212_42 {xs : List Int32} : xtI (xTa xs) 212 42 = some (.istore 4, 2) := x_ins (j := 30) kk212 ia212 rfl
theorem i212_44 {xs : List Int32} : xtI (xTa xs) 212 44 = some (.iload_n 3, 1) := x_ins (j := 31) kk212 ia212 rfl
theorem i212_45 {xs : List Int32} : xtI (xTa xs) 212 45 = some (.iconst (-1), 1) := x_ins (j := 32) kk212 ia212 rfl
theorem i212_46 {xs : List Int32} : xtI (xTa xs) 212 46 = some (.if_icmp .eq 14, 3) := x_ins (j := 33) kk212 ia212 rfl
theorem i212_49 {xs : List Int32} : xtI (xTa xs) 212 49 = some (.iload 4, 2) := x_ins (j := 34) kk212 ia212 rfl
theorem i212_51 {xs : List Int32} : xtI (xTa xs) 212 51 = some (.aload_n 0, 1) := x_ins (j := 35) kk212 ia212 rfl
theorem i212_52 {xs : List Int32} : xtI (xTa xs) 212 52 = some (.getfield 47, 3) := x_ins (j := 36) kk212 ia212 rfl
theorem i212_55 {xs : List Int32} : xtI (xTa xs) 212 55 = some (.iload_n 3, 1) := x_ins (j := 37) kk212 ia212 rfl
theorem i212_56 {xs : List Int32} : xtI (xTa xs) 212 56 = some (.iaload, 1) := x_ins (j := 38) kk212 ia212 rfl
theorem i212_57 {xs : List Int32} : xtI (xTa xs) 212 57 = some (.if_icmp .ne 9, 3) := x_ins (j := 39) kk212 ia212 rfl
theorem i212_60 {xs : List Int32} : xtI (xTa xs) 212 60 = some (.iinc 2 (-1), 3) := x_ins (j := 40) kk212 ia212 rfl
theorem i212_63 {xs : List Int32} : xtI (xTa xs) 212 63 = some (.goto 120, 3) := x_ins (j := 41) kk212 ia212 rfl
theorem i212_66 {xs : List Int32} : xtI (xTa xs) 212 66 = some (.aload_n 0, 1) := x_ins (j := 42) kk212 ia212 rfl
theorem i212_67 {xs : List Int32} : xtI (xTa xs) 212 67 = some (.getfield 137, 3) := x_ins (j := 43) kk212 ia212 rfl
theorem i212_70 {xs : List Int32} : xtI (xTa xs) 212 70 = some (.iload_n 2, 1) := x_ins (j := 44) kk212 ia212 rfl
theorem i212_71 {xs : List Int32} : xtI (xTa xs) 212 71 = some (.iconst 1, 1) := x_ins (j := 45) kk212 ia212 rfl
theorem i212_72 {xs : List Int32} : xtI (xTa xs) 212 72 = some (.isub, 1) := x_ins (j := 46) kk212 ia212 rfl
theorem i212_73 {xs : List Int32} : xtI (xTa xs) 212 73 = some (.dup2, 1) := x_ins (j := 47) kk212 ia212 rfl
theorem i212_74 {xs : List Int32} : xtI (xTa xs) 212 74 = some (.iaload, 1) := x_ins (j := 48) kk212 ia212 rfl
theorem i212_75 {xs : List Int32} : xtI (xTa xs) 212 75 = some (.iconst 1, 1) := x_ins (j := 49) kk212 ia212 rfl
theorem i212_76 {xs : List Int32} : xtI (xTa xs) 212 76 = some (.iadd, 1) := x_ins (j := 50) kk212 ia212 rfl
theorem i212_77 {xs : List Int32} : xtI (xTa xs) 212 77 = some (.iastore, 1) := x_ins (j := 51) kk212 ia212 rfl
theorem i212_78 {xs : List Int32} : xtI (xTa xs) 212 78 = some (.aload_n 0, 1) := x_ins (j := 52) kk212 ia212 rfl
theorem i212_79 {xs : List Int32} : xtI (xTa xs) 212 79 = some (.getfield 53, 3) := x_ins (j := 53) kk212 ia212 rfl
theorem i212_82 {xs : List Int32} : xtI (xTa xs) 212 82 = some (.bipush 24, 2) := x_ins (j := 54) kk212 ia212 rfl
theorem i212_84 {xs : List Int32} : xtI (xTa xs) 212 84 = some (.iload_n 3, 1) := x_ins (j := 55) kk212 ia212 rfl
theorem i212_85 {xs : List Int32} : xtI (xTa xs) 212 85 = some (.imul, 1) := x_ins (j := 56) kk212 ia212 rfl
theorem i212_86 {xs : List Int32} : xtI (xTa xs) 212 86 = some (.iload 4, 2) := x_ins (j := 57) kk212 ia212 rfl
theorem i212_88 {xs : List Int32} : xtI (xTa xs) 212 88 = some (.iadd, 1) := x_ins (j := 58) kk212 ia212 rfl
theorem i212_89 {xs : List Int32} : xtI (xTa xs) 212 89 = some (.iaload, 1) := x_ins (j := 59) kk212 ia212 rfl
theorem i212_90 {xs : List Int32} : xtI (xTa xs) 212 90 = some (.istore 5, 2) := x_ins (j := 60) kk212 ia212 rfl
theorem i212_92 {xs : List Int32} : xtI (xTa xs) 212 92 = some (.iload 5, 2) := x_ins (j := 61) kk212 ia212 rfl
theorem i212_94 {xs : List Int32} : xtI (xTa xs) 212 94 = some (.bipush 7, 2) := x_ins (j := 62) kk212 ia212 rfl
theorem i212_96 {xs : List Int32} : xtI (xTa xs) 212 96 = some (.if_icmp .ne 45, 3) := x_ins (j := 63) kk212 ia212 rfl
theorem i212_99 {xs : List Int32} : xtI (xTa xs) 212 99 = some (.aload_n 0, 1) := x_ins (j := 64) kk212 ia212 rfl
theorem i212_100 {xs : List Int32} : xtI (xTa xs) 212 100 = some (.iload_n 3, 1) := x_ins (j := 65) kk212 ia212 rfl
theorem i212_101 {xs : List Int32} : xtI (xTa xs) 212 101 = some (.invokevirtual 198, 3) := x_ins (j := 66) kk212 ia212 rfl
theorem i212_104 {xs : List Int32} : xtI (xTa xs) 212 104 = some (.istore 6, 2) := x_ins (j := 67) kk212 ia212 rfl
theorem i212_106 {xs : List Int32} : xtI (xTa xs) 212 106 = some (.aload_n 0, 1) := x_ins (j := 68) kk212 ia212 rfl
theorem i212_107 {xs : List Int32} : xtI (xTa xs) 212 107 = some (.getfield 134, 3) := x_ins (j := 69) kk212 ia212 rfl
theorem i212_110 {xs : List Int32} : xtI (xTa xs) 212 110 = some (.iload_n 2, 1) := x_ins (j := 70) kk212 ia212 rfl
theorem i212_111 {xs : List Int32} : xtI (xTa xs) 212 111 = some (.iload 6, 2) := x_ins (j := 71) kk212 ia212 rfl
theorem i212_113 {xs : List Int32} : xtI (xTa xs) 212 113 = some (.iconst (-1), 1) := x_ins (j := 72) kk212 ia212 rfl
theorem i212_114 {xs : List Int32} : xtI (xTa xs) 212 114 = some (.if_icmp .ne 7, 3) := x_ins (j := 73) kk212 ia212 rfl
theorem i212_117 {xs : List Int32} : xtI (xTa xs) 212 117 = some (.iconst (-1), 1) := x_ins (j := 74) kk212 ia212 rfl
theorem i212_118 {xs : List Int32} : xtI (xTa xs) 212 118 = some (.goto 9, 3) := x_ins (j := 75) kk212 ia212 rfl
theorem i212_121 {xs : List Int32} : xtI (xTa xs) 212 121 = some (.aload_n 0, 1) := x_ins (j := 76) kk212 ia212 rfl
theorem i212_122 {xs : List Int32} : xtI (xTa xs) 212 122 = some (.iload 6, 2) := x_ins (j := 77) kk212 ia212 rfl
theorem i212_124 {xs : List Int32} : xtI (xTa xs) 212 124 = some (.invokevirtual 353, 3) := x_ins (j := 78) kk212 ia212 rfl
theorem i212_127 {xs : List Int32} : xtI (xTa xs) 212 127 = some (.iastore, 1) := x_ins (j := 79) kk212 ia212 rfl
theorem i212_128 {xs : List Int32} : xtI (xTa xs) 212 128 = some (.aload_n 0, 1) := x_ins (j := 80) kk212 ia212 rfl
theorem i212_129 {xs : List Int32} : xtI (xTa xs) 212 129 = some (.getfield 137, 3) := x_ins (j := 81) kk212 ia212 rfl
theorem i212_132 {xs : List Int32} : xtI (xTa xs) 212 132 = some (.iload_n 2, 1) := x_ins (j := 82) kk212 ia212 rfl
theorem i212_133 {xs : List Int32} : xtI (xTa xs) 212 133 = some (.iconst 0, 1) := x_ins (j := 83) kk212 ia212 rfl
theorem i212_134 {xs : List Int32} : xtI (xTa xs) 212 134 = some (.iastore, 1) := x_ins (j := 84) kk212 ia212 rfl
theorem i212_135 {xs : List Int32} : xtI (xTa xs) 212 135 = some (.iinc 2 1, 3) := x_ins (j := 85) kk212 ia212 rfl
theorem i212_138 {xs : List Int32} : xtI (xTa xs) 212 138 = some (.goto 45, 3) := x_ins (j := 86) kk212 ia212 rfl
theorem i212_141 {xs : List Int32} : xtI (xTa xs) 212 141 = some (.iload 5, 2) := x_ins (j := 87) kk212 ia212 rfl
theorem i212_143 {xs : List Int32} : xtI (xTa xs) 212 143 = some (.iconst 1, 1) := x_ins (j := 88) kk212 ia212 rfl
theorem i212_144 {xs : List Int32} : xtI (xTa xs) 212 144 = some (.if_icmp .gt 39, 3) := x_ins (j := 89) kk212 ia212 rfl
theorem i212_147 {xs : List Int32} : xtI (xTa xs) 212 147 = some (.aload_n 0, 1) := x_ins (j := 90) kk212 ia212 rfl
theorem i212_148 {xs : List Int32} : xtI (xTa xs) 212 148 = some (.getfield 128, 3) := x_ins (j := 91) kk212 ia212 rfl
theorem i212_151 {xs : List Int32} : xtI (xTa xs) 212 151 = some (.aload_n 0, 1) := x_ins (j := 92) kk212 ia212 rfl
theorem i212_152 {xs : List Int32} : xtI (xTa xs) 212 152 = some (.getfield 418, 3) := x_ins (j := 93) kk212 ia212 rfl
theorem i212_155 {xs : List Int32} : xtI (xTa xs) 212 155 = some (.iload_n 3, 1) := x_ins (j := 94) kk212 ia212 rfl
theorem i212_156 {xs : List Int32} : xtI (xTa xs) 212 156 = some (.iastore, 1) := x_ins (j := 95) kk212 ia212 rfl
theorem i212_157 {xs : List Int32} : xtI (xTa xs) 212 157 = some (.aload_n 0, 1) := x_ins (j := 96) kk212 ia212 rfl
theorem i212_158 {xs : List Int32} : xtI (xTa xs) 212 158 = some (.getfield 131, 3) := x_ins (j := 97) kk212 ia212 rfl
theorem i212_161 {xs : List Int32} : xtI (xTa xs) 212 161 = some (.aload_n 0, 1) := x_ins (j := 98) kk212 ia212 rfl
theorem i212_162 {xs : List Int32} : xtI (xTa xs) 212 162 = some (.getfield 418, 3) := x_ins (j := 99) kk212 ia212 rfl
theorem i212_165 {xs : List Int32} : xtI (xTa xs) 212 165 = some (.bipush 24, 2) := x_ins (j := 100) kk212 ia212 rfl
theorem i212_167 {xs : List Int32} : xtI (xTa xs) 212 167 = some (.iload_n 3, 1) := x_ins (j := 101) kk212 ia212 rfl
theorem i212_168 {xs : List Int32} : xtI (xTa xs) 212 168 = some (.imul, 1) := x_ins (j := 102) kk212 ia212 rfl
theorem i212_169 {xs : List Int32} : xtI (xTa xs) 212 169 = some (.iload 4, 2) := x_ins (j := 103) kk212 ia212 rfl
theorem i212_171 {xs : List Int32} : xtI (xTa xs) 212 171 = some (.iadd, 1) := x_ins (j := 104) kk212 ia212 rfl
theorem i212_172 {xs : List Int32} : xtI (xTa xs) 212 172 = some (.iastore, 1) := x_ins (j := 105) kk212 ia212 rfl
theorem i212_173 {xs : List Int32} : xtI (xTa xs) 212 173 = some (.aload_n 0, 1) := x_ins (j := 106) kk212 ia212 rfl
theorem i212_174 {xs : List Int32} : xtI (xTa xs) 212 174 = some (.dup, 1) := x_ins (j := 107) kk212 ia212 rfl
theorem i212_175 {xs : List Int32} : xtI (xTa xs) 212 175 = some (.getfield 418, 3) := x_ins (j := 108) kk212 ia212 rfl
theorem i212_178 {xs : List Int32} : xtI (xTa xs) 212 178 = some (.iconst 1, 1) := x_ins (j := 109) kk212 ia212 rfl
theorem i212_179 {xs : List Int32} : xtI (xTa xs) 212 179 = some (.iadd, 1) := x_ins (j := 110) kk212 ia212 rfl
theorem i212_180 {xs : List Int32} : xtI (xTa xs) 212 180 = some (.putfield 418, 3) := x_ins (j := 111) kk212 ia212 rfl
theorem i212_183 {xs : List Int32} : xtI (xTa xs) 212 183 = some (.goto (-162), 3) := x_ins (j := 112) kk212 ia212 rfl
theorem i212_186 {xs : List Int32} : xtI (xTa xs) 212 186 = some (.return_, 1) := x_ins (j := 113) kk212 ia212 rfl
theorem kk213 : xK0.getD 213 [] = k213 := rfl
set_option maxRecDepth 100000 in
theorem ia213 : (k213.all fun e => decide (k213.lookup e.1 = some e.2)) = true := by decide +kernel
theorem i213_0 {xs : List Int32} : xtI (xTa xs) 213 0 = some (.iconst 0, 1) := x_ins (j := 0) kk213 ia213 rfl
theorem i213_1 {xs : List Int32} : xtI (xTa xs) 213 1 = some (.istore 4, 2) := x_ins (j := 1) kk213 ia213 rfl
theorem i213_3 {xs : List Int32} : xtI (xTa xs) 213 3 = some (.iconst 2, 1) := x_ins (j := 2) kk213 ia213 rfl
theorem i213_4 {xs : List Int32} : xtI (xTa xs) 213 4 = some (.istore 5, 2) := x_ins (j := 3) kk213 ia213 rfl
theorem i213_6 {xs : List Int32} : xtI (xTa xs) 213 6 = some (.iload 5, 2) := x_ins (j := 4) kk213 ia213 rfl
theorem i213_8 {xs : List Int32} : xtI (xTa xs) 213 8 = some (.bipush 6, 2) := x_ins (j := 5) kk213 ia213 rfl
theorem i213_10 {xs : List Int32} : xtI (xTa xs) 213 10 = some (.if_icmp .gt 71, 3) := x_ins (j := 6) kk213 ia213 rfl
theorem i213_13 {xs : List Int32} : xtI (xTa xs) 213 13 = some (.iconst 0, 1) := x_ins (j := 7) kk213 ia213 rfl
theorem i213_14 {xs : List Int32} : xtI (xTa xs) 213 14 = some (.istore 6, 2) := x_ins (j := 8) kk213 ia213 rfl
theorem i213_16 {xs : List Int32} : xtI (xTa xs) 213 16 = some (.iload 6, 2) := x_ins (j := 9) kk213 ia213 rfl
theorem i213_18 {xs : List Int32} : xtI (xTa xs) 213 18 = some (.aload_n 0, 1) := x_ins (j := 10) kk213 ia213 rfl
theorem i213_19 {xs : List Int32} : xtI (xTa xs) 213 19 = some (.getfield 47, 3) := x_ins (j := 11) kk213 ia213 rfl
theorem i213_22 {xs : List Int32} : xtI (xTa xs) 213 22 = some (.iload_n 1, 1) := x_ins (j := 12) kk213 ia213 rfl
theorem i213_23 {xs : List Int32} : xtI (xTa xs) 213 23 = some (.iaload, 1) := x_ins (j := 13) kk213 ia213 rfl
theorem i213_24 {xs : List Int32} : xtI (xTa xs) 213 24 = some (.if_icmp .ge 51, 3) := x_ins (j := 14) kk213 ia213 rfl
theorem i213_27 {xs : List Int32} : xtI (xTa xs) 213 27 = some (.bipush 24, 2) := x_ins (j := 15) kk213 ia213 rfl
theorem i213_29 {xs : List Int32} : xtI (xTa xs) 213 29 = some (.iload_n 1, 1) := x_ins (j := 16) kk213 ia213 rfl
theorem i213_30 {xs : List Int32} : xtI (xTa xs) 213 30 = some (.imul, 1) := x_ins (j := 17) kk213 ia213 rfl
theorem i213_31 {xs : List Int32} : xtI (xTa xs) 213 31 = some (.iload 6, 2) := x_ins (j := 18) kk213 ia213 rfl
theorem i213_33 {xs : List Int32} : xtI (xTa xs) 213 33 = some (.iadd, 1) := x_ins (j := 19) kk213 ia213 rfl
theorem i213_34 {xs : List Int32} : xtI (xTa xs) 213 34 = some (.istore 7, 2) := x_ins (j := 20) kk213 ia213 rfl
theorem i213_36 {xs : List Int32} : xtI (xTa xs) 213 36 = some (.aload_n 0, 1) := x_ins (j := 21) kk213 ia213 rfl
theorem i213_37 {xs : List Int32} : xtI (xTa xs) 213 37 = some (.getfield 53, 3) := x_ins (j := 22) kk213 ia213 rfl
theorem i213_40 {xs : List Int32} : xtI (xTa xs) 213 40 = some (.iload 7, 2) := x_ins (j := 23) kk213 ia213 rfl
theorem i213_42 {xs : List Int32} : xtI (xTa xs) 213 42 = some (.iaload, 1) := x_ins (j := 24) kk213 ia213 rfl
theorem i213_43 {xs : List Int32} : xtI (xTa xs) 213 43 = some (.iload 5, 2) := x_ins (j := 25) kk213 ia213 rfl
theorem i213_45 {xs : List Int32} : xtI (xTa xs) 213 45 = some (.if_icmp .ne 24, 3) := x_ins (j := 26) kk213 ia213 rfl
theorem i213_48 {xs : List Int32} : xtI (xTa xs) 213 48 = some (.iload 4, 2) := x_ins (j := 27) kk213 ia213 rfl
theorem i213_50 {xs : List Int32} : xtI (xTa xs) 213 50 = some (.ifCond .ne 7, 3) := x_ins (j := 28) kk213 ia213 rfl
theorem i213_53 {xs : List Int32} : xtI (xTa xs) 213 53 = some (.aload_n 0, 1) := x_ins (j := 29) kk213 ia213 rfl
theorem i213_54 {xs : List Int32} : xtI (xTa xs) 213 54 = some (.invokevirtual 421, 3) := x_ins (j := 30) kk213 ia213 rfl
theorem i213_57 {xs : List Int32} : xtI (xTa xs) 213 57 = some (.iconst 1, 1) := x_ins (j := 31) kk213 ia213 rfl
theorem i213_58 {xs : List Int32} : xtI (xTa xs) 213 58 = some (.istore 4, 2) := x_ins (j := 32) kk213 ia213 rfl
theorem i213_60 {xs : List Int32} : xtI (xTa xs) 213 60 = some (.aload_n 0, 1) := x_ins (j := 33) kk213 ia213 rfl
theorem i213_61 {xs : List Int32} : xtI (xTa xs) 213 61 = some (.iload_n 1, 1) := x_ins (j := 34) kk213 ia213 rfl
theorem i213_62 {xs : List Int32} : xtI (xTa xs) 213 62 = some (.iload 7, 2) := x_ins (j := 35) kk213 ia213 rfl
theorem i213_64 {xs : List Int32} : xtI (xTa xs) 213 64 = some (.iload_n 2, 1) := x_ins (j := 36) kk213 ia213 rfl
theorem i213_65 {xs : List Int32} : xtI (xTa xs) 213 65 = some (.iload_n 3, 1) := x_ins (j := 37) kk213 ia213 rfl
theorem i213_66 {xs : List Int32} : xtI (xTa xs) 213 66 = some (.invokevirtual 424, 3) := x_ins (j := 38) kk213 ia213 rfl
theorem i213_69 {xs : List Int32} : xtI (xTa xs) 213 69 = some (.iinc 6 1, 3) := x_ins (j := 39) kk213 ia213 rfl
theorem i213_72 {xs : List Int32} : xtI (xTa xs) 213 72 = some (.goto (-56), 3) := x_ins (j := 40) kk213 ia213 rfl
theorem i213_75 {xs : List Int32} : xtI (xTa xs) 213 75 = some (.iinc 5 1, 3) := x_ins (j := 41) kk213 ia213 rfl
theorem i213_78 {xs : List Int32} : xtI (xTa xs) 213 78 = some (.goto (-72), 3) := x_ins (j := 42) kk213 ia213 rfl
theorem i213_81 {xs : List Int32} : xtI (xTa xs) 213 81 = some (.return_, 1) := x_ins (j := 43) kk213 ia213 rfl
theorem kk214 : xK0.getD 214 [] = k214 := rfl
set_option maxRecDepth 100000 in
theorem ia214 : (k214.all fun e => decide (k214.lookup e.1 = some e.2)) = true := by decide +kernel
theorem i214_0 {xs : List Int32} : xtI (xTa xs) 214 0 = some (.aload_n 0, 1) := x_ins (j := 0) kk214 ia214 rfl
theorem i214_1 {xs : List Int32} : xtI (xTa xs) 214 1 = some (.iload_n 1, 1) := x_ins (j := 1) kk214 ia214 rfl
theorem i214_2 {xs : List Int32} : xtI (xTa xs) 214 2 = some (.invokevirtual 161, 3) := x_ins (j := 2) kk214 ia214 rfl
theorem i214_5 {xs : List Int32} : xtI (xTa xs) 214 5 = some (.ifCond .eq 23, 3) := x_ins (j := 3) kk214 ia214 rfl
theorem i214_8 {xs : List Int32} : xtI (xTa xs) 214 8 = some (.iload_n 2, 1) := x_ins (j := 4) kk214 ia214 rfl
theorem i214_9 {xs : List Int32} : xtI (xTa xs) 214 9 = some (.bipush 12, 2) := x_ins (j := 5) kk214 ia214 rfl
theorem i214_11 {xs : List Int32} : xtI (xTa xs) 214 11 = some (.bipush 60, 2) := x_ins (j := 6) kk214 ia214 rfl
theorem i214_13 {xs : List Int32} : xtI (xTa xs) 214 13 = some (.invokestatic 154, 3) := x_ins (j := 7) kk214 ia214 rfl
theorem i214_16 {xs : List Int32} : xtI (xTa xs) 214 16 = some (.ifCond .eq 12, 3) := x_ins (j := 8) kk214 ia214 rfl
theorem i214_19 {xs : List Int32} : xtI (xTa xs) 214 19 = some (.iload_n 3, 1) := x_ins (j := 9) kk214 ia214 rfl
theorem i214_20 {xs : List Int32} : xtI (xTa xs) 214 20 = some (.iconst 0, 1) := x_ins (j := 10) kk214 ia214 rfl
theorem i214_21 {xs : List Int32} : xtI (xTa xs) 214 21 = some (.iconst 1, 1) := x_ins (j := 11) kk214 ia214 rfl
theorem i214_22 {xs : List Int32} : xtI (xTa xs) 214 22 = some (.invokestatic 154, 3) := x_ins (j := 12) kk214 ia214 rfl
theorem i214_25 {xs : List Int32} : xtI (xTa xs) 214 25 = some (.ifCond .ne 5, 3) := x_ins (j := 13) kk214 ia214 rfl
theorem i214_28 {xs : List Int32} : xtI (xTa xs) 214 28 = some (.iconst (-1), 1) := x_ins (j := 14) kk214 ia214 rfl
theorem i214_29 {xs : List Int32} : xtI (xTa xs) 214 29 = some (.ireturn, 1) := x_ins (j := 15) kk214 ia214 rfl
theorem i214_30 {xs : List Int32} : xtI (xTa xs) 214 30 = some (.aload_n 0, 1) := x_ins (j := 16) kk214 ia214 rfl
theorem i214_31 {xs : List Int32} : xtI (xTa xs) 214 31 = some (.iconst 0, 1) := x_ins (j := 17) kk214 ia214 rfl
theorem i214_32 {xs : List Int32} : xtI (xTa xs) 214 32 = some (.putfield 356, 3) := x_ins (j := 18) kk214 ia214 rfl
theorem i214_35 {xs : List Int32} : xtI (xTa xs) 214 35 = some (.aload_n 0, 1) := x_ins (j := 19) kk214 ia214 rfl
theorem i214_36 {xs : List Int32} : xtI (xTa xs) 214 36 = some (.iconst 0, 1) := x_ins (j := 20) kk214 ia214 rfl
theorem i214_37 {xs : List Int32} : xtI (xTa xs) 214 37 = some (.putfield 362, 3) := x_ins (j := 21) kk214 ia214 rfl
theorem i214_40 {xs : List Int32} : xtI (xTa xs) 214 40 = some (.aload_n 0, 1) := x_ins (j := 22) kk214 ia214 rfl
theorem i214_41 {xs : List Int32} : xtI (xTa xs) 214 41 = some (.iconst 0, 1) := x_ins (j := 23) kk214 ia214 rfl
theorem i214_42 {xs : List Int32} : xtI (xTa xs) 214 42 = some (.putfield 415, 3) := x_ins (j := 24) kk214 ia214 rfl
theorem i214_45 {xs : List Int32} : xtI (xTa xs) 214 45 = some (.aload_n 0, 1) := x_ins (j := 25) kk214 ia214 rfl
theorem i214_46 {xs : List Int32} : xtI (xTa xs) 214 46 = some (.iconst 0, 1) := x_ins (j := 26) kk214 ia214 rfl
theorem i214_47 {xs : List Int32} : xtI (xTa xs) 214 47 = some (.putfield 365, 3) := x_ins (j := 27) kk214 ia214 rfl
theorem i214_50 {xs : List Int32} : xtI (xTa xs) 214 50 = some (.aload_n 0, 1) := x_ins (j := 28) kk214 ia214 rfl
theorem i214_51 {xs : List Int32} : xtI (xTa xs) 214 51 = some (.iconst 0, 1) := x_ins (j := 29) kk214 ia214 rfl
theorem i214_52 {xs : List Int32} : xtI (xTa xs) 214 52 = some (.putfield 386, 3) := x_ins (j := 30) kk214 ia214 rfl
theorem i214_55 {xs : List Int32} : xtI (xTa xs) 214 55 = some (.aload_n 0, 1) := x_ins (j := 31) kk214 ia214 rfl
theorem i214_56 {xs : List Int32} : xtI (xTa xs) 214 56 = some (.invokevirtual 368, 3) := x_ins (j := 32) kk214 ia214 rfl
theorem i214_59 {xs : List Int32} : xtI (xTa xs) 214 59 = some (.aload_n 0, 1) := x_ins (j := 33) kk214 ia214 rfl
theorem i214_60 {xs : List Int32} : xtI (xTa xs) 214 60 = some (.iload_n 1, 1) := x_ins (j := 34) kk214 ia214 rfl
theorem i214_61 {xs : List Int32} : xtI (xTa xs) 214 61 = some (.invokevirtual 427, 3) := x_ins (j := 35) kk214 ia214 rfl
theorem i214_64 {xs : List Int32} : xtI (xTa xs) 214 64 = some (.aload_n 0, 1) := x_ins (j := 36) kk214 ia214 rfl
theorem i214_65 {xs : List Int32} : xtI (xTa xs) 214 65 = some (.invokevirtual 371, 3) := x_ins (j := 37) kk214 ia214 rfl
theorem i214_68 {xs : List Int32} : xtI (xTa xs) 214 68 = some (.aload_n 0, 1) := x_ins (j := 38) kk214 ia214 rfl
theorem i214_69 {xs : List Int32} : xtI (xTa xs) 214 69 = some (.iload_n 1, 1) := x_ins (j := 39) kk214 ia214 rfl
theorem i214_70 {xs : List Int32} : xtI (xTa xs) 214 70 = some (.invokevirtual 353, 3) := x_ins (j := 40) kk214 ia214 rfl
theorem i214_73 {xs : List Int32} : xtI (xTa xs) 214 73 = some (.istore 4, 2) := x_ins (j := 41) kk214 ia214 rfl
theorem i214_75 {xs : List Int32} : xtI (xTa xs) 214 75 = some (.aload_n 0, 1) := x_ins (j := 42) kk214 ia214 rfl
theorem i214_76 {xs : List Int32} : xtI (xTa xs) 214 76 = some (.iload 4, 2) := x_ins (j := 43) kk214 ia214 rfl
theorem i214_78 {xs : List Int32} : xtI (xTa xs) 214 78 = some (.invokevirtual 430, 3) := x_ins (j := 44) kk214 ia214 rfl
theorem i214_81 {xs : List Int32} : xtI (xTa xs) 214 81 = some (.iconst 0, 1) := x_ins (j := 45) kk214 ia214 rfl
theorem i214_82 {xs : List Int32} : xtI (xTa xs) 214 82 = some (.istore 5, 2) := x_ins (j := 46) kk214 ia214 rfl
theorem i214_84 {xs : List Int32} : xtI (xTa xs) 214 84 = some (.iload 5, 2) := x_ins (j := 47) kk214 ia214 rfl
theorem i214_86 {xs : List Int32} : xtI (xTa xs) 214 86 = some (.aload_n 0, 1) := x_ins (j := 48) kk214 ia214 rfl
theorem i214_87 {xs : List Int32} : xtI (xTa xs) 214 87 = some (.getfield 418, 3) := x_ins (j := 49) kk214 ia214 rfl
theorem i214_90 {xs : List Int32} : xtI (xTa xs) 214 90 = some (.if_icmp .ge 67, 3) := x_ins (j := 50) kk214 ia214 rfl
theorem i214_93 {xs : List Int32} : xtI (xTa xs) 214 93 = some (.aload_n 0, 1) := x_ins (j := 51) kk214 ia214 rfl
theorem i214_94 {xs : List Int32} : xtI (xTa xs) 214 94 = some (.getfield 356, 3) := x_ins (j := 52) kk214 ia214 rfl
theorem i214_97 {xs : List Int32} : xtI (xTa xs) 214 97 = some (.sipush 4000, 3) := x_ins (j := 53) kk214 ia214 rfl
theorem i214_100 {xs : List Int32} : xtI (xTa xs) 214 100 = some (.if_icmp .gt 57, 3) := x_ins (j := 54) kk214 ia214 rfl
theorem i214_103 {xs : List Int32} : xtI (xTa xs) 214 103 = some (.aload_n 0, 1) := x_ins (j := 55) kk214 ia214 rfl
theorem i214_104 {xs : List Int32} : xtI (xTa xs) 214 104 = some (.getfield 74, 3) := x_ins (j := 56) kk214 ia214 rfl
theorem i214_107 {xs : List Int32} : xtI (xTa xs) 214 107 = some (.aload_n 0, 1) := x_ins (j := 57) kk214 ia214 rfl
theorem i214_108 {xs : List Int32} : xtI (xTa xs) 214 108 = some (.getfield 131, 3) := x_ins (j := 58) kk214 ia214 rfl
theorem i214_111 {xs : List Int32} : xtI (xTa xs) 214 111 = some (.iload 5, 2) := x_ins (j := 59) kk214 ia214 rfl
theorem i214_113 {xs : List Int32} : xtI (xTa xs) 214 113 = some (.iaload, 1) := x_ins (j := 60) kk214 ia214 rfl
theorem i214_114 {xs : List Int32} : xtI (xTa xs) 214 114 = some (.baload, 1) := x_ins (j := 61) kk214 ia214 rfl
theorem i214_115 {xs : List Int32} : xtI (xTa xs) 214 115 = some (.ifCond .ne 7, 3) := x_ins (j := 62) kk214 ia214 rfl
theorem i214_118 {xs : List Int32} : xtI (xTa xs) 214 118 = some (.aload_n 0, 1) := x_ins (j := 63) kk214 ia214 rfl
theorem i214_119 {xs : List Int32} : xtI (xTa xs) 214 119 = some (.invokevirtual 421, 3) := x_ins (j := 64) kk214 ia214 rfl
theorem i214_122 {xs : List Int32} : xtI (xTa xs) 214 122 = some (.aload_n 0, 1) := x_ins (j := 65) kk214 ia214 rfl
theorem i214_123 {xs : List Int32} : xtI (xTa xs) 214 123 = some (.aload_n 0, 1) := x_ins (j := 66) kk214 ia214 rfl
theorem i214_124 {xs : List Int32} : xtI (xTa xs) 214 124 = some (.getfield 128, 3) := x_ins (j := 67) kk214 ia214 rfl
theorem i214_127 {xs : List Int32} : xtI (xTa xs) 214 127 = some (.iload 5, 2) := x_ins (j := 68) kk214 ia214 rfl
theorem i214_129 {xs : List Int32} : xtI (xTa xs) 214 129 = some (.iaload, 1) := x_ins (j := 69) kk214 ia214 rfl
theorem i214_130 {xs : List Int32} : xtI (xTa xs) 214 130 = some (.aload_n 0, 1) := x_ins (j := 70) kk214 ia214 rfl
theorem i214_131 {xs : List Int32} : xtI (xTa xs) 214 131 = some (.getfield 131, 3) := x_ins (j := 71) kk214 ia214 rfl
theorem i214_134 {xs : List Int32} : xtI (xTa xs) 214 134 = some (.iload 5, 2) := x_ins (j := 72) kk214 ia214 rfl
theorem i214_136 {xs : List Int32} : xtI (xTa xs) 214 136 = some (.iaload, 1) := x_ins (j := 73) kk214 ia214 rfl
theorem i214_137 {xs : List Int32} : xtI (xTa xs) 214 137 = some (.iload_n 2, 1) := x_ins (j := 74) kk214 ia214 rfl
theorem i214_138 {xs : List Int32} : xtI (xTa xs) 214 138 = some (.iload_n 3, 1) := x_ins (j := 75) kk214 ia214 rfl
theorem i214_139 {xs : List Int32} : xtI (xTa xs) 214 139 = some (.iconst 1, 1) := x_ins (j := 76) kk214 ia214 rfl
theorem i214_140 {xs : List Int32} : xtI (xTa xs) 214 140 = some (.if_icmp .ne 7, 3) := x_ins (j := 77) kk214 ia214 rfl
theorem i214_143 {xs : List Int32} : xtI (xTa xs) 214 143 = some (.iconst 1, 1) := x_ins (j := 78) kk214 ia214 rfl
theorem i214_144 {xs : List Int32} : xtI (xTa xs) 214 144 = some (.goto 4, 3) := x_ins (j := 79) kk214 ia214 rfl
theorem i214_147 {xs : List Int32} : xtI (xTa xs) 214 147 = some (.iconst 0, 1) := x_ins (j := 80) kk214 ia214 rfl
theorem i214_148 {xs : List Int32} : xtI (xTa xs) 214 148 = some (.invokevirtual 424, 3) := x_ins (j := 81) kk214 ia214 rfl
theorem i214_151 {xs : List Int32} : xtI (xTa xs) 214 151 = some (.iinc 5 1, 3) := x_ins (j := 82) kk214 ia214 rfl
theorem i214_154 {xs : List Int32} : xtI (xTa xs) 214 154 = some (.goto (-70), 3) := x_ins (j := 83) kk214 ia214 rfl
theorem i214_157 {xs : List Int32} : xtI (xTa xs) 214 157 = some (.iload 4, 2) := x_ins (j := 84) kk214 ia214 rfl
theorem i214_159 {xs : List Int32} : xtI (xTa xs) 214 159 = some (.iconst (-1), 1) := x_ins (j := 85) kk214 ia214 rfl
theorem i214_160 {xs : List Int32} : xtI (xTa xs) 214 160 = some (.if_icmp .eq 30, 3) := x_ins (j := 86) kk214 ia214 rfl
theorem i214_163 {xs : List Int32} : xtI (xTa xs) 214 163 = some (.aload_n 0, 1) := x_ins (j := 87) kk214 ia214 rfl
theorem i214_164 {xs : List Int32} : xtI (xTa xs) 214 164 = some (.getfield 356, 3) := x_ins (j := 88) kk214 ia214 rfl
theorem i214_167 {xs : List Int32} : xtI (xTa xs) 214 167 = some (.sipush 4000, 3) := x_ins (j := 89) kk214 ia214 rfl
theorem i214_170 {xs : List Int32} : xtI (xTa xs) 214 170 = some (.if_icmp .gt 20, 3) := x_ins (j := 90) kk214 ia214 rfl
theorem i214_173 {xs : List Int32} : xtI (xTa xs) 214 173 = some (.aload_n 0, 1) := x_ins (j := 91) kk214 ia214 rfl
theorem i214_174 {xs : List Int32} : xtI (xTa xs) 214 174 = some (.iload 4, 2) := x_ins (j := 92) kk214 ia214 rfl
theorem i214_176 {xs : List Int32} : xtI (xTa xs) 214 176 = some (.iload_n 2, 1) := x_ins (j := 93) kk214 ia214 rfl
theorem i214_177 {xs : List Int32} : xtI (xTa xs) 214 177 = some (.iload_n 3, 1) := x_ins (j := 94) kk214 ia214 rfl
theorem i214_178 {xs : List Int32} : xtI (xTa xs) 214 178 = some (.iconst 1, 1) := x_ins (j := 95) kk214 ia214 rfl
theorem i214_179 {xs : List Int32} : xtI (xTa xs) 214 179 = some (.if_icmp .ne 7, 3) := x_ins (j := 96) kk214 ia214 rfl
theorem i214_182 {xs : List Int32} : xtI (xTa xs) 214 182 = some (.iconst 1, 1) := x_ins (j := 97) kk214 ia214 rfl
theorem i214_183 {xs : List Int32} : xtI (xTa xs) 214 183 = some (.goto 4, 3) := x_ins (j := 98) kk214 ia214 rfl
theorem i214_186 {xs : List Int32} : xtI (xTa xs) 214 186 = some (.iconst 0, 1) := x_ins (j := 99) kk214 ia214 rfl
theorem i214_187 {xs : List Int32} : xtI (xTa xs) 214 187 = some (.invokevirtual 433, 3) := x_ins (j := 100) kk214 ia214 rfl
theorem i214_190 {xs : List Int32} : xtI (xTa xs) 214 190 = some (.iconst 0, 1) := x_ins (j := 101) kk214 ia214 rfl
theorem i214_191 {xs : List Int32} : xtI (xTa xs) 214 191 = some (.istore 5, 2) := x_ins (j := 102) kk214 ia214 rfl
theorem i214_193 {xs : List Int32} : xtI (xTa xs) 214 193 = some (.iload 5, 2) := x_ins (j := 103) kk214 ia214 rfl
theorem i214_195 {xs : List Int32} : xtI (xTa xs) 214 195 = some (.aload_n 0, 1) := x_ins (j := 104) kk214 ia214 rfl
theorem i214_196 {xs : List Int32} : xtI (xTa xs) 214 196 = some (.getfield 386, 3) := x_ins (j := 105) kk214 ia214 rfl
theorem i214_199 {xs : List Int32} : xtI (xTa xs) 214 199 = some (.if_icmp .ge 63, 3) := x_ins (j := 106) kk214 ia214 rfl
theorem i214_202 {xs : List Int32} : xtI (xTa xs) 214 202 = some (.iload 5, 2) := x_ins (j := 107) kk214 ia214 rfl
theorem i214_204 {xs : List Int32} : xtI (xTa xs) 214 204 = some (.ifCond .ne 7, 3) := x_ins (j := 108) kk214 ia214 rfl
theorem i214_207 {xs : List Int32} : xtI (xTa xs) 214 207 = some (.aload_n 0, 1) := x_ins (j := 109) kk214 ia214 rfl
theorem i214_208 {xs : List Int32} : xtI (xTa xs) 214 208 = some (.invokevirtual 421, 3) := x_ins (j := 110) kk214 ia214 rfl
theorem i214_211 {xs : List Int32} : xtI (xTa xs) 214 211 = some (.aload_n 0, 1) := x_ins (j := 111) kk214 ia214 rfl
theorem i214_212 {xs : List Int32} : xtI (xTa xs) 214 212 = some (.invokevirtual 368, 3) := x_ins (j := 112) kk214 ia214 rfl
theorem i214_215 {xs : List Int32} : xtI (xTa xs) 214 215 = some (.aload_n 0, 1) := x_ins (j := 113) kk214 ia214 rfl
theorem i214_216 {xs : List Int32} : xtI (xTa xs) 214 216 = some (.bipush 91, 2) := x_ins (j := 114) kk214 ia214 rfl
theorem i214_218 {xs : List Int32} : xtI (xTa xs) 214 218 = some (.invokevirtual 359, 3) := x_ins (j := 115) kk214 ia214 rfl
theorem i214_221 {xs : List Int32} : xtI (xTa xs) 214 221 = some (.aload_n 0, 1) := x_ins (j := 116) kk214 ia214 rfl
theorem i214_222 {xs : List Int32} : xtI (xTa xs) 214 222 = some (.iload 5, 2) := x_ins (j := 117) kk214 ia214 rfl
theorem i214_224 {xs : List Int32} : xtI (xTa xs) 214 224 = some (.iconst 1, 1) := x_ins (j := 118) kk214 ia214 rfl
theorem i214_225 {xs : List Int32} : xtI (xTa xs) 214 225 = some (.iadd, 1) := x_ins (j := 119) kk214 ia214 rfl
theorem i214_226 {xs : List Int32} : xtI (xTa xs) 214 226 = some (.invokevirtual 437, 3) := x_ins (j := 120) kk214 ia214 rfl
theorem i214_229 {xs : List Int32} : xtI (xTa xs) 214 229 = some (.aload_n 0, 1) := x_ins (j := 121) kk214 ia214 rfl
theorem i214_230 {xs : List Int32} : xtI (xTa xs) 214 230 = some (.bipush 93, 2) := x_ins (j := 122) kk214 ia214 rfl
theorem i214_232 {xs : List Int32} : xtI (xTa xs) 214 232 = some (.invokevirtual 359, 3) := x_ins (j := 123) kk214 ia214 rfl
theorem i214_235 {xs : List Int32} : xtI (xTa xs) 214 235 = some (.aload_n 0, 1) := x_ins (j := 124) kk214 ia214 rfl
theorem i214_236 {xs : List Int32} : xtI (xTa xs) 214 236 = some (.bipush 32, 2) := x_ins (j := 125) kk214 ia214 rfl
theorem i214_238 {xs : List Int32} : xtI (xTa xs) 214 238 = some (.invokevirtual 359, 3) := x_ins (j := 126) kk214 ia214 rfl
theorem i214_241 {xs : List Int32} : xtI (xTa xs) 214 241 = some (.aload_n 0, 1) := x_ins (j := 127) kk214 ia214 rfl
theorem i214_242 {xs : List Int32} : xtI (xTa xs) 214 242 = some (.aload_n 0, 1) := x_ins (j := 128) kk214 ia214 rfl
theorem i214_243 {xs : List Int32} : xtI (xTa xs) 214 243 = some (.getfield 104, 3) := x_ins (j := 129) kk214 ia214 rfl
theorem i214_246 {xs : List Int32} : xtI (xTa xs) 214 246 = some (.iload 5, 2) := x_ins (j := 130) kk214 ia214 rfl
theorem i214_248 {xs : List Int32} : xtI (xTa xs) 214 248 = some (.iaload, 1) := x_ins (j := 131) kk214 ia214 rfl
theorem i214_249 {xs : List Int32} : xtI (xTa xs) 214 249 = some (.invokevirtual 427, 3) := x_ins (j := 132) kk214 ia214 rfl
theorem i214_252 {xs : List Int32} : xtI (xTa xs) 214 252 = some (.aload_n 0, 1) := x_ins (j := 133) kk214 ia214 rfl
theorem i214_253 {xs : List Int32} : xtI (xTa xs) 214 253 = some (.invokevirtual 371, 3) := x_ins (j := 134) kk214 ia214 rfl
theorem i214_256 {xs : List Int32} : xtI (xTa xs) 214 256 = some (.iinc 5 1, 3) := x_ins (j := 135) kk214 ia214 rfl
theorem i214_259 {xs : List Int32} : xtI (xTa xs) 214 259 = some (.goto (-66), 3) := x_ins (j := 136) kk214 ia214 rfl
theorem i214_262 {xs : List Int32} : xtI (xTa xs) 214 262 = some (.aload_n 0, 1) := x_ins (j := 137) kk214 ia214 rfl
theorem i214_263 {xs : List Int32} : xtI (xTa xs) 214 263 = some (.getfield 356, 3) := x_ins (j := 138) kk214 ia214 rfl
theorem i214_266 {xs : List Int32} : xtI (xTa xs) 214 266 = some (.sipush 4000, 3) := x_ins (j := 139) kk214 ia214 rfl
theorem i214_269 {xs : List Int32} : xtI (xTa xs) 214 269 = some (.if_icmp .le 6, 3) := x_ins (j := 140) kk214 ia214 rfl
theorem i214_272 {xs : List Int32} : xtI (xTa xs) 214 272 = some (.bipush (-3), 2) := x_ins (j := 141) kk214 ia214 rfl
theorem i214_274 {xs : List Int32} : xtI (xTa xs) 214 274 = some (.ireturn, 1) := x_ins (j := 142) kk214 ia214 rfl
theorem i214_275 {xs : List Int32} : xtI (xTa xs) 214 275 = some (.aload_n 0, 1) := x_ins (j := 143) kk214 ia214 rfl
theorem i214_276 {xs : List Int32} : xtI (xTa xs) 214 276 = some (.aload_n 0, 1) := x_ins (j := 144) kk214 ia214 rfl
theorem i214_277 {xs : List Int32} : xtI (xTa xs) 214 277 = some (.getfield 356, 3) := x_ins (j := 145) kk214 ia214 rfl
theorem i214_280 {xs : List Int32} : xtI (xTa xs) 214 280 = some (.putfield 440, 3) := x_ins (j := 146) kk214 ia214 rfl
theorem i214_283 {xs : List Int32} : xtI (xTa xs) 214 283 = some (.iconst 0, 1) := x_ins (j := 147) kk214 ia214 rfl
theorem i214_284 {xs : List Int32} : xtI (xTa xs) 214 284 = some (.istore 5, 2) := x_ins (j := 148) kk214 ia214 rfl
theorem i214_286 {xs : List Int32} : xtI (xTa xs) 214 286 = some (.iload 5, 2) := x_ins (j := 149) kk214 ia214 rfl
theorem i214_288 {xs : List Int32} : xtI (xTa xs) 214 288 = some (.aload_n 0, 1) := x_ins (j := 150) kk214 ia214 rfl
theorem i214_289 {xs : List Int32} : xtI (xTa xs) 214 289 = some (.getfield 440, 3) := x_ins (j := 151) kk214 ia214 rfl
theorem i214_292 {xs : List Int32} : xtI (xTa xs) 214 292 = some (.if_icmp .ge 23, 3) := x_ins (j := 152) kk214 ia214 rfl
theorem i214_295 {xs : List Int32} : xtI (xTa xs) 214 295 = some (.aload_n 0, 1) := x_ins (j := 153) kk214 ia214 rfl
theorem i214_296 {xs : List Int32} : xtI (xTa xs) 214 296 = some (.getfield 107, 3) := x_ins (j := 154) kk214 ia214 rfl
theorem i214_299 {xs : List Int32} : xtI (xTa xs) 214 299 = some (.iload 5, 2) := x_ins (j := 155) kk214 ia214 rfl
theorem i214_301 {xs : List Int32} : xtI (xTa xs) 214 301 = some (.aload_n 0, 1) := x_ins (j := 156) kk214 ia214 rfl
theorem i214_302 {xs : List Int32} : xtI (xTa xs) 214 302 = some (.getfield 98, 3) := x_ins (j := 157) kk214 ia214 rfl
theorem i214_305 {xs : List Int32} : xtI (xTa xs) 214 305 = some (.iload 5, 2) := x_ins (j := 158) kk214 ia214 rfl
theorem i214_307 {xs : List Int32} : xtI (xTa xs) 214 307 = some (.iaload, 1) := x_ins (j := 159) kk214 ia214 rfl
theorem i214_308 {xs : List Int32} : xtI (xTa xs) 214 308 = some (.iastore, 1) := x_ins (j := 160) kk214 ia214 rfl
theorem i214_309 {xs : List Int32} : xtI (xTa xs) 214 309 = some (.iinc 5 1, 3) := x_ins (j := 161) kk214 ia214 rfl
theorem i214_312 {xs : List Int32} : xtI (xTa xs) 214 312 = some (.goto (-26), 3) := x_ins (j := 162) kk214 ia214 rfl
theorem i214_315 {xs : List Int32} : xtI (xTa xs) 214 315 = some (.aload_n 0, 1) := x_ins (j := 163) kk214 ia214 rfl
theorem i214_316 {xs : List Int32} : xtI (xTa xs) 214 316 = some (.aload_n 0, 1) := x_ins (j := 164) kk214 ia214 rfl
theorem i214_317 {xs : List Int32} : xtI (xTa xs) 214 317 = some (.getfield 362, 3) := x_ins (j := 165) kk214 ia214 rfl
theorem i214_320 {xs : List Int32} : xtI (xTa xs) 214 320 = some (.putfield 443, 3) := x_ins (j := 166) kk214 ia214 rfl
theorem i214_323 {xs : List Int32} : xtI (xTa xs) 214 323 = some (.iconst 0, 1) := x_ins (j := 167) kk214 ia214 rfl
theorem i214_324 {xs : List Int32} : xtI (xTa xs) 214 324 = some (.istore 5, 2) := x_ins (j := 168) kk214 ia214 rfl
theorem i214_326 {xs : List Int32} : xtI (xTa xs) 214 326 = some (.iload 5, 2) := x_ins (j := 169) kk214 ia214 rfl
theorem i214_328 {xs : List Int32} : xtI (xTa xs) 214 328 = some (.aload_n 0, 1) := x_ins (j := 170) kk214 ia214 rfl
theorem i214_329 {xs : List Int32} : xtI (xTa xs) 214 329 = some (.getfield 443, 3) := x_ins (j := 171) kk214 ia214 rfl
theorem i214_332 {xs : List Int32} : xtI (xTa xs) 214 332 = some (.if_icmp .ge 23, 3) := x_ins (j := 172) kk214 ia214 rfl
theorem i214_335 {xs : List Int32} : xtI (xTa xs) 214 335 = some (.aload_n 0, 1) := x_ins (j := 173) kk214 ia214 rfl
theorem i214_336 {xs : List Int32} : xtI (xTa xs) 214 336 = some (.getfield 110, 3) := x_ins (j := 174) kk214 ia214 rfl
theorem i214_339 {xs : List Int32} : xtI (xTa xs) 214 339 = some (.iload 5, 2) := x_ins (j := 175) kk214 ia214 rfl
theorem i214_341 {xs : List Int32} : xtI (xTa xs) 214 341 = some (.aload_n 0, 1) := x_ins (j := 176) kk214 ia214 rfl
theorem i214_342 {xs : List Int32} : xtI (xTa xs) 214 342 = some (.getfield 101, 3) := x_ins (j := 177) kk214 ia214 rfl
theorem i214_345 {xs : List Int32} : xtI (xTa xs) 214 345 = some (.iload 5, 2) := x_ins (j := 178) kk214 ia214 rfl
theorem i214_347 {xs : List Int32} : xtI (xTa xs) 214 347 = some (.iaload, 1) := x_ins (j := 179) kk214 ia214 rfl
theorem i214_348 {xs : List Int32} : xtI (xTa xs) 214 348 = some (.iastore, 1) := x_ins (j := 180) kk214 ia214 rfl
theorem i214_349 {xs : List Int32} : xtI (xTa xs) 214 349 = some (.iinc 5 1, 3) := x_ins (j := 181) kk214 ia214 rfl
theorem i214_352 {xs : List Int32} : xtI (xTa xs) 214 352 = some (.goto (-26), 3) := x_ins (j := 182) kk214 ia214 rfl
theorem i214_355 {xs : List Int32} : xtI (xTa xs) 214 355 = some (.aload_n 0, 1) := x_ins (j := 183) kk214 ia214 rfl
theorem i214_356 {xs : List Int32} : xtI (xTa xs) 214 356 = some (.aload_n 0, 1) := x_ins (j := 184) kk214 ia214 rfl
theorem i214_357 {xs : List Int32} : xtI (xTa xs) 214 357 = some (.getfield 386, 3) := x_ins (j := 185) kk214 ia214 rfl
theorem i214_360 {xs : List Int32} : xtI (xTa xs) 214 360 = some (.putfield 446, 3) := x_ins (j := 186) kk214 ia214 rfl
theorem i214_363 {xs : List Int32} : xtI (xTa xs) 214 363 = some (.iconst 0, 1) := x_ins (j := 187) kk214 ia214 rfl
theorem i214_364 {xs : List Int32} : xtI (xTa xs) 214 364 = some (.istore 5, 2) := x_ins (j := 188) kk214 ia214 rfl
theorem i214_366 {xs : List Int32} : xtI (xTa xs) 214 366 = some (.iload 5, 2) := x_ins (j := 189) kk214 ia214 rfl
theorem i214_368 {xs : List Int32} : xtI (xTa xs) 214 368 = some (.aload_n 0, 1) := x_ins (j := 190) kk214 ia214 rfl
theorem i214_369 {xs : List Int32} : xtI (xTa xs) 214 369 = some (.getfield 446, 3) := x_ins (j := 191) kk214 ia214 rfl
theorem i214_372 {xs : List Int32} : xtI (xTa xs) 214 372 = some (.if_icmp .ge 23, 3) := x_ins (j := 192) kk214 ia214 rfl
theorem i214_375 {xs : List Int32} : xtI (xTa xs) 214 375 = some (.aload_n 0, 1) := x_ins (j := 193) kk214 ia214 rfl
theorem i214_376 {xs : List Int32} : xtI (xTa xs) 214 376 = some (.getfield 113, 3) := x_ins (j := 194) kk214 ia214 rfl
theorem i214_379 {xs : List Int32} : xtI (xTa xs) 214 379 = some (.iload 5, 2) := x_ins (j := 195) kk214 ia214 rfl
theorem i214_381 {xs : List Int32} : xtI (xTa xs) 214 381 = some (.aload_n 0, 1) := x_ins (j := 196) kk214 ia214 rfl
theorem i214_382 {xs : List Int32} : xtI (xTa xs) 214 382 = some (.getfield 104, 3) := x_ins (j := 197) kk214 ia214 rfl
theorem i214_385 {xs : List Int32} : xtI (xTa xs) 214 385 = some (.iload 5, 2) := x_ins (j := 198) kk214 ia214 rfl
theorem i214_387 {xs : List Int32} : xtI (xTa xs) 214 387 = some (.iaload, 1) := x_ins (j := 199) kk214 ia214 rfl
theorem i214_388 {xs : List Int32} : xtI (xTa xs) 214 388 = some (.iastore, 1) := x_ins (j := 200) kk214 ia214 rfl
theorem i214_389 {xs : List Int32} : xtI (xTa xs) 214 389 = some (.iinc 5 1, 3) := x_ins (j := 201) kk214 ia214 rfl
theorem i214_392 {xs : List Int32} : xtI (xTa xs) 214 392 = some (.goto (-26), 3) := x_ins (j := 202) kk214 ia214 rfl
theorem i214_395 {xs : List Int32} : xtI (xTa xs) 214 395 = some (.aload_n 0, 1) := x_ins (j := 203) kk214 ia214 rfl
theorem i214_396 {xs : List Int32} : xtI (xTa xs) 214 396 = some (.aload_n 0, 1) := x_ins (j := 204) kk214 ia214 rfl
theorem i214_397 {xs : List Int32} : xtI (xTa xs) 214 397 = some (.getfield 415, 3) := x_ins (j := 205) kk214 ia214 rfl
theorem i214_400 {xs : List Int32} : xtI (xTa xs) 214 400 = some (.putfield 449, 3) := x_ins (j := 206) kk214 ia214 rfl
theorem i214_403 {xs : List Int32} : xtI (xTa xs) 214 403 = some (.aload_n 0, 1) := x_ins (j := 207) kk214 ia214 rfl
theorem i214_404 {xs : List Int32} : xtI (xTa xs) 214 404 = some (.aload_n 0, 1) := x_ins (j := 208) kk214 ia214 rfl
theorem i214_405 {xs : List Int32} : xtI (xTa xs) 214 405 = some (.getfield 365, 3) := x_ins (j := 209) kk214 ia214 rfl
theorem i214_408 {xs : List Int32} : xtI (xTa xs) 214 408 = some (.putfield 452, 3) := x_ins (j := 210) kk214 ia214 rfl
theorem i214_411 {xs : List Int32} : xtI (xTa xs) 214 411 = some (.aload_n 0, 1) := x_ins (j := 211) kk214 ia214 rfl
theorem i214_412 {xs : List Int32} : xtI (xTa xs) 214 412 = some (.getfield 443, 3) := x_ins (j := 212) kk214 ia214 rfl
theorem i214_415 {xs : List Int32} : xtI (xTa xs) 214 415 = some (.ireturn, 1) := x_ins (j := 213) kk214 ia214 rfl
theorem kk215 : xK0.getD 215 [] = k215 := rfl
set_option maxRecDepth 100000 in
theorem ia215 : (k215.all fun e => decide (k215.lookup e.1 = some e.2)) = true := by decide +kernel
theorem i215_0 {xs : List Int32} : xtI (xTa xs) 215 0 = some (.iload_n 1, 1) := x_ins (j := 0) kk215 ia215 rfl
theorem i215_1 {xs : List Int32} : xtI (xTa xs) 215 1 = some (.tableswitch 60 0 4 #[35, 40, 45, 50, 55], 35) := x_ins (j := 1) kk215 ia215 rfl
theorem i215_36 {xs : List Int32} : xtI (xTa xs) 215 36 = some (.aload_n 0, 1) := x_ins (j := 2) kk215 ia215 rfl
theorem i215_37 {xs : List Int32} : xtI (xTa xs) 215 37 = some (.getfield 443, 3) := x_ins (j := 3) kk215 ia215 rfl
theorem i215_40 {xs : List Int32} : xtI (xTa xs) 215 40 = some (.ireturn, 1) := x_ins (j := 4) kk215 ia215 rfl
theorem i215_41 {xs : List Int32} : xtI (xTa xs) 215 41 = some (.aload_n 0, 1) := x_ins (j := 5) kk215 ia215 rfl
theorem i215_42 {xs : List Int32} : xtI (xTa xs) 215 42 = some (.getfield 440, 3) := x_ins (j := 6) kk215 ia215 rfl
theorem i215_45 {xs : List Int32} : xtI (xTa xs) 215 45 = some (.ireturn, 1) := x_ins (j := 7) kk215 ia215 rfl
theorem i215_46 {xs : List Int32} : xtI (xTa xs) 215 46 = some (.aload_n 0, 1) := x_ins (j := 8) kk215 ia215 rfl
theorem i215_47 {xs : List Int32} : xtI (xTa xs) 215 47 = some (.getfield 446, 3) := x_ins (j := 9) kk215 ia215 rfl
theorem i215_50 {xs : List Int32} : xtI (xTa xs) 215 50 = some (.ireturn, 1) := x_ins (j := 10) kk215 ia215 rfl
theorem i215_51 {xs : List Int32} : xtI (xTa xs) 215 51 = some (.aload_n 0, 1) := x_ins (j := 11) kk215 ia215 rfl
theorem i215_52 {xs : List Int32} : xtI (xTa xs) 215 52 = some (.getfield 449, 3) := x_ins (j := 12) kk215 ia215 rfl
theorem i215_55 {xs : List Int32} : xtI (xTa xs) 215 55 = some (.ireturn, 1) := x_ins (j := 13) kk215 ia215 rfl
theorem i215_56 {xs : List Int32} : xtI (xTa xs) 215 56 = some (.aload_n 0, 1) := x_ins (j := 14) kk215 ia215 rfl
theorem i215_57 {xs : List Int32} : xtI (xTa xs) 215 57 = some (.getfield 452, 3) := x_ins (j := 15) kk215 ia215 rfl
theorem i215_60 {xs : List Int32} : xtI (xTa xs) 215 60 = some (.ireturn, 1) := x_ins (j := 16) kk215 ia215 rfl
theorem i215_61 {xs : List Int32} : xtI (xTa xs) 215 61 = some (.iconst (-1), 1) := x_ins (j := 17) kk215 ia215 rfl
theorem i215_62 {xs : List Int32} : xtI (xTa xs) 215 62 = some (.ireturn, 1) := x_ins (j := 18) kk215 ia215 rfl
theorem kk216 : xK0.getD 216 [] = k216 := rfl
set_option maxRecDepth 100000 in
theorem ia216 : (k216.all fun e => decide (k216.lookup e.1 = some e.2)) = true := by decide +kernel
theorem i216_0 {xs : List Int32} : xtI (xTa xs) 216 0 = some (.iload_n 1, 1) := x_ins (j := 0) kk216 ia216 rfl
theorem i216_1 {xs : List Int32} : xtI (xTa xs) 216 1 = some (.iconst 0, 1) := x_ins (j := 1) kk216 ia216 rfl
theorem i216_2 {xs : List Int32} : xtI (xTa xs) 216 2 = some (.aload_n 0, 1) := x_ins (j := 2) kk216 ia216 rfl
theorem i216_3 {xs : List Int32} : xtI (xTa xs) 216 3 = some (.getfield 440, 3) := x_ins (j := 3) kk216 ia216 rfl
theorem i216_6 {xs : List Int32} : xtI (xTa xs) 216 6 = some (.iconst 1, 1) := x_ins (j := 4) kk216 ia216 rfl
theorem i216_7 {xs : List Int32} : xtI (xTa xs) 216 7 = some (.isub, 1) := x_ins (j := 5) kk216 ia216 rfl
theorem i216_8 {xs : List Int32} : xtI (xTa xs) 216 8 = some (.invokestatic 154, 3) := x_ins (j := 6) kk216 ia216 rfl
theorem i216_11 {xs : List Int32} : xtI (xTa xs) 216 11 = some (.ifCond .eq 12, 3) := x_ins (j := 7) kk216 ia216 rfl
theorem i216_14 {xs : List Int32} : xtI (xTa xs) 216 14 = some (.aload_n 0, 1) := x_ins (j := 8) kk216 ia216 rfl
theorem i216_15 {xs : List Int32} : xtI (xTa xs) 216 15 = some (.getfield 107, 3) := x_ins (j := 9) kk216 ia216 rfl
theorem i216_18 {xs : List Int32} : xtI (xTa xs) 216 18 = some (.iload_n 1, 1) := x_ins (j := 10) kk216 ia216 rfl
theorem i216_19 {xs : List Int32} : xtI (xTa xs) 216 19 = some (.iaload, 1) := x_ins (j := 11) kk216 ia216 rfl
theorem i216_20 {xs : List Int32} : xtI (xTa xs) 216 20 = some (.goto 4, 3) := x_ins (j := 12) kk216 ia216 rfl
theorem i216_23 {xs : List Int32} : xtI (xTa xs) 216 23 = some (.iconst 0, 1) := x_ins (j := 13) kk216 ia216 rfl
theorem i216_24 {xs : List Int32} : xtI (xTa xs) 216 24 = some (.ireturn, 1) := x_ins (j := 14) kk216 ia216 rfl
theorem kk217 : xK0.getD 217 [] = k217 := rfl
set_option maxRecDepth 100000 in
theorem ia217 : (k217.all fun e => decide (k217.lookup e.1 = some e.2)) = true := by decide +kernel
theorem i217_0 {xs : List Int32} : xtI (xTa xs) 217 0 = some (.iload_n 1, 1) := x_ins (j := 0) kk217 ia217 rfl
theorem i217_1 {xs : List Int32} : xtI (xTa xs) 217 1 = some (.iconst 0, 1) := x_ins (j := 1) kk217 ia217 rfl
theorem i217_2 {xs : List Int32} : xtI (xTa xs) 217 2 = some (.aload_n 0, 1) := x_ins (j := 2) kk217 ia217 rfl
theorem i217_3 {xs : List Int32} : xtI (xTa xs) 217 3 = some (.getfield 443, 3) := x_ins (j := 3) kk217 ia217 rfl
theorem i217_6 {xs : List Int32} : xtI (xTa xs) 217 6 = some (.iconst 1, 1) := x_ins (j := 4) kk217 ia217 rfl
theorem i217_7 {xs : List Int32} : xtI (xTa xs) 217 7 = some (.isub, 1) := x_ins (j := 5) kk217 ia217 rfl
theorem i217_8 {xs : List Int32} : xtI (xTa xs) 217 8 = some (.invokestatic 154, 3) := x_ins (j := 6) kk217 ia217 rfl
theorem i217_11 {xs : List Int32} : xtI (xTa xs) 217 11 = some (.ifCond .eq 12, 3) := x_ins (j := 7) kk217 ia217 rfl
theorem i217_14 {xs : List Int32} : xtI (xTa xs) 217 14 = some (.aload_n 0, 1) := x_ins (j := 8) kk217 ia217 rfl
theorem i217_15 {xs : List Int32} : xtI (xTa xs) 217 15 = some (.getfield 110, 3) := x_ins (j := 9) kk217 ia217 rfl
theorem i217_18 {xs : List Int32} : xtI (xTa xs) 217 18 = some (.iload_n 1, 1) := x_ins (j := 10) kk217 ia217 rfl
theorem i217_19 {xs : List Int32} : xtI (xTa xs) 217 19 = some (.iaload, 1) := x_ins (j := 11) kk217 ia217 rfl
theorem i217_20 {xs : List Int32} : xtI (xTa xs) 217 20 = some (.goto 4, 3) := x_ins (j := 12) kk217 ia217 rfl
theorem i217_23 {xs : List Int32} : xtI (xTa xs) 217 23 = some (.iconst (-1), 1) := x_ins (j := 13) kk217 ia217 rfl
theorem i217_24 {xs : List Int32} : xtI (xTa xs) 217 24 = some (.ireturn, 1) := x_ins (j := 14) kk217 ia217 rfl
theorem kk218 : xK0.getD 218 [] = k218 := rfl
set_option maxRecDepth 100000 in
theorem ia218 : (k218.all fun e => decide (k218.lookup e.1 = some e.2)) = true := by decide +kernel
theorem i218_0 {xs : List Int32} : xtI (xTa xs) 218 0 = some (.iload_n 1, 1) := x_ins (j := 0) kk218 ia218 rfl
theorem i218_1 {xs : List Int32} : xtI (xTa xs) 218 1 = some (.iconst 1, 1) := x_ins (j := 1) kk218 ia218 rfl
theorem i218_2 {xs : List Int32} : xtI (xTa xs) 218 2 = some (.aload_n 0, 1) := x_ins (j := 2) kk218 ia218 rfl
theorem i218_3 {xs : List Int32} : xtI (xTa xs) 218 3 = some (.getfield 446, 3) := x_ins (j := 3) kk218 ia218 rfl
theorem i218_6 {xs : List Int32} : xtI (xTa xs) 218 6 = some (.invokestatic 154, 3) := x_ins (j := 4) kk218 ia218 rfl
theorem i218_9 {xs : List Int32} : xtI (xTa xs) 218 9 = some (.ifCond .eq 14, 3) := x_ins (j := 5) kk218 ia218 rfl
theorem i218_12 {xs : List Int32} : xtI (xTa xs) 218 12 = some (.aload_n 0, 1) := x_ins (j := 6) kk218 ia218 rfl
theorem i218_13 {xs : List Int32} : xtI (xTa xs) 218 13 = some (.getfield 113, 3) := x_ins (j := 7) kk218 ia218 rfl
theorem i218_16 {xs : List Int32} : xtI (xTa xs) 218 16 = some (.iload_n 1, 1) := x_ins (j := 8) kk218 ia218 rfl
theorem i218_17 {xs : List Int32} : xtI (xTa xs) 218 17 = some (.iconst 1, 1) := x_ins (j := 9) kk218 ia218 rfl
theorem i218_18 {xs : List Int32} : xtI (xTa xs) 218 18 = some (.isub, 1) := x_ins (j := 10) kk218 ia218 rfl
theorem i218_19 {xs : List Int32} : xtI (xTa xs) 218 19 = some (.iaload, 1) := x_ins (j := 11) kk218 ia218 rfl
theorem i218_20 {xs : List Int32} : xtI (xTa xs) 218 20 = some (.goto 4, 3) := x_ins (j := 12) kk218 ia218 rfl
theorem i218_23 {xs : List Int32} : xtI (xTa xs) 218 23 = some (.iconst (-1), 1) := x_ins (j := 13) kk218 ia218 rfl
theorem i218_24 {xs : List Int32} : xtI (xTa xs) 218 24 = some (.ireturn, 1) := x_ins (j := 14) kk218 ia218 rfl
theorem kk219 : xK0.getD 219 [] = k219 := rfl
set_option maxRecDepth 100000 in
theorem ia219 : (k219.all fun e => decide (k219.lookup e.1 = some e.2)) = true := by decide +kernel
theorem i219_0 {xs : List Int32} : xtI (xTa xs) 219 0 = some (.aload_n 0, 1) := x_ins (j := 0) kk219 ia219 rfl
theorem i219_1 {xs : List Int32} : xtI (xTa xs) 219 1 = some (.getfield 140, 3) := x_ins (j := 1) kk219 ia219 rfl
theorem i219_4 {xs : List Int32} : xtI (xTa xs) 219 4 = some (.aload_n 0, 1) := x_ins (j := 2) kk219 ia219 rfl
theorem i219_5 {xs : List Int32} : xtI (xTa xs) 219 5 = some (.getfield 455, 3) := x_ins (j := 3) kk219 ia219 rfl
theorem i219_8 {xs : List Int32} : xtI (xTa xs) 219 8 = some (.iload_n 1, 1) := x_ins (j := 4) kk219 ia219 rfl
theorem i219_9 {xs : List Int32} : xtI (xTa xs) 219 9 = some (.iastore, 1) := x_ins (j := 5) kk219 ia219 rfl
theorem i219_10 {xs : List Int32} : xtI (xTa xs) 219 10 = some (.aload_n 0, 1) := x_ins (j := 6) kk219 ia219 rfl
theorem i219_11 {xs : List Int32} : xtI (xTa xs) 219 11 = some (.getfield 143, 3) := x_ins (j := 7) kk219 ia219 rfl
theorem i219_14 {xs : List Int32} : xtI (xTa xs) 219 14 = some (.aload_n 0, 1) := x_ins (j := 8) kk219 ia219 rfl
theorem i219_15 {xs : List Int32} : xtI (xTa xs) 219 15 = some (.getfield 455, 3) := x_ins (j := 9) kk219 ia219 rfl
theorem i219_18 {xs : List Int32} : xtI (xTa xs) 219 18 = some (.iload_n 2, 1) := x_ins (j := 10) kk219 ia219 rfl
theorem i219_19 {xs : List Int32} : xtI (xTa xs) 219 19 = some (.iastore, 1) := x_ins (j := 11) kk219 ia219 rfl
theorem i219_20 {xs : List Int32} : xtI (xTa xs) 219 20 = some (.aload_n 0, 1) := x_ins (j := 12) kk219 ia219 rfl
theorem i219_21 {xs : List Int32} : xtI (xTa xs) 219 21 = some (.dup, 1) := x_ins (j := 13) kk219 ia219 rfl
theorem i219_22 {xs : List Int32} : xtI (xTa xs) 219 22 = some (.getfield 455, 3) := x_ins (j := 14) kk219 ia219 rfl
theorem i219_25 {xs : List Int32} : xtI (xTa xs) 219 25 = some (.iconst 1, 1) := x_ins (j := 15) kk219 ia219 rfl
theorem i219_26 {xs : List Int32} : xtI (xTa xs) 219 26 = some (.iadd, 1) := x_ins (j := 16) kk219 ia219 rfl
theorem i219_27 {xs : List Int32} : xtI (xTa xs) 219 27 = some (.putfield 455, 3) := x_ins (j := 17) kk219 ia219 rfl
theorem i219_30 {xs : List Int32} : xtI (xTa xs) 219 30 = some (.return_, 1) := x_ins (j := 18) kk219 ia219 rfl
theorem kk220 : xK0.getD 220 [] = k220 := rfl
set_option maxRecDepth 100000 in
theorem ia220 : (k220.all fun e => decide (k220.lookup e.1 = some e.2)) = true := by decide +kernel
theorem i220_0 {xs : List Int32} : xtI (xTa xs) 220 0 = some (.iconst 0, 1) := x_ins (j := 0) kk220 ia220 rfl
theorem i220_1 {xs : List Int32} : xtI (xTa xs) 220 1 = some (.istore_n 3, 1) := x_ins (j := 1) kk220 ia220 rfl
theorem i220_2 {xs : List Int32} : xtI (xTa xs) 220 2 = some (.iconst 0, 1) := x_ins (j := 2) kk220 ia220 rfl
theorem i220_3 {xs : List Int32} : xtI (xTa xs) 220 3 = some (.istore 4, 2) := x_ins (j := 3) kk220 ia220 rfl
theorem i220_5 {xs : List Int32} : xtI (xTa xs) 220 5 = some (.iload 4, 2) := x_ins (j := 4) kk220 ia220 rfl
theorem i220_7 {xs : List Int32} : xtI (xTa xs) 220 7 = some (.aload_n 0, 1) := x_ins (j := 5) kk220 ia220 rfl
theorem i220_8 {xs : List Int32} : xtI (xTa xs) 220 8 = some (.getfield 32, 3) := x_ins (j := 6) kk220 ia220 rfl
theorem i220_11 {xs : List Int32} : xtI (xTa xs) 220 11 = some (.iload_n 1, 1) := x_ins (j := 7) kk220 ia220 rfl
theorem i220_12 {xs : List Int32} : xtI (xTa xs) 220 12 = some (.iaload, 1) := x_ins (j := 8) kk220 ia220 rfl
theorem i220_13 {xs : List Int32} : xtI (xTa xs) 220 13 = some (.if_icmp .ge 31, 3) := x_ins (j := 9) kk220 ia220 rfl
theorem i220_16 {xs : List Int32} : xtI (xTa xs) 220 16 = some (.iload_n 3, 1) := x_ins (j := 10) kk220 ia220 rfl
theorem i220_17 {xs : List Int32} : xtI (xTa xs) 220 17 = some (.ifCond .ne 15, 3) := x_ins (j := 11) kk220 ia220 rfl
theorem i220_20 {xs : List Int32} : xtI (xTa xs) 220 20 = some (.aload_n 0, 1) := x_ins (j := 12) kk220 ia220 rfl
theorem i220_21 {xs : List Int32} : xtI (xTa xs) 220 21 = some (.iload_n 1, 1) := x_ins (j := 13) kk220 ia220 rfl
theorem i220_22 {xs : List Int32} : xtI (xTa xs) 220 22 = some (.iload 4, 2) := x_ins (j := 14) kk220 ia220 rfl
theorem i220_24 {xs : List Int32} : xtI (xTa xs) 220 24 = some (.iload_n 1, 1) := x_ins (j := 15) kk220 ia220 rfl
theorem i220_25 {xs : List Int32} : xtI (xTa xs) 220 25 = some (.iload_n 2, 1) := x_ins (j := 16) kk220 ia220 rfl
theorem i220_26 {xs : List Int32} : xtI (xTa xs) 220 26 = some (.invokevirtual 458, 3) := x_ins (j := 17) kk220 ia220 rfl
theorem i220_29 {xs : List Int32} : xtI (xTa xs) 220 29 = some (.ifCond .eq 7, 3) := x_ins (j := 18) kk220 ia220 rfl
theorem i220_32 {xs : List Int32} : xtI (xTa xs) 220 32 = some (.iconst 1, 1) := x_ins (j := 19) kk220 ia220 rfl
theorem i220_33 {xs : List Int32} : xtI (xTa xs) 220 33 = some (.goto 4, 3) := x_ins (j := 20) kk220 ia220 rfl
theorem i220_36 {xs : List Int32} : xtI (xTa xs) 220 36 = some (.iconst 0, 1) := x_ins (j := 21) kk220 ia220 rfl
theorem i220_37 {xs : List Int32} : xtI (xTa xs) 220 37 = some (.istore_n 3, 1) := x_ins (j := 22) kk220 ia220 rfl
theorem i220_38 {xs : List Int32} : xtI (xTa xs) 220 38 = some (.iinc 4 1, 3) := x_ins (j := 23) kk220 ia220 rfl
theorem i220_41 {xs : List Int32} : xtI (xTa xs) 220 41 = some (.goto (-36), 3) := x_ins (j := 24) kk220 ia220 rfl
theorem i220_44 {xs : List Int32} : xtI (xTa xs) 220 44 = some (.iload_n 3, 1) := x_ins (j := 25) kk220 ia220 rfl
theorem i220_45 {xs : List Int32} : xtI (xTa xs) 220 45 = some (.ireturn, 1) := x_ins (j := 26) kk220 ia220 rfl
theorem kk221 : xK0.getD 221 [] = k221 := rfl
set_option maxRecDepth 100000 in
theorem ia221 : (k221.all fun e => decide (k221.lookup e.1 = some e.2)) = true := by decide +kernel
theorem i221_0 {xs : List Int32} : xtI (xTa xs) 221 0 = some (.iconst 4, 1) := x_ins (j := 0) kk221 ia221 rfl
theorem i221_1 {xs : List Int32} : xtI (xTa xs) 221 1 = some (.iload_n 1, 1) := x_ins (j := 1) kk221 ia221 rfl
theorem i221_2 {xs : List Int32} : xtI (xTa xs) 221 2 = some (.imul, 1) := x_ins (j := 2) kk221 ia221 rfl
theorem i221_3 {xs : List Int32} : xtI (xTa xs) 221 3 = some (.iload_n 2, 1) := x_ins (j := 3) kk221 ia221 rfl
theorem i221_4 {xs : List Int32} : xtI (xTa xs) 221 4 = some (.iadd, 1) := x_ins (j := 4) kk221 ia221 rfl
theorem i221_5 {xs : List Int32} : xtI (xTa xs) 221 5 = some (.istore 5, 2) := x_ins (j := 5) kk221 ia221 rfl
theorem i221_7 {xs : List Int32} : xtI (xTa xs) 221 7 = some (.aload_n 0, 1) := x_ins (j := 6) kk221 ia221 rfl
theorem i221_8 {xs : List Int32} : xtI (xTa xs) 221 8 = some (.getfield 53, 3) := x_ins (j := 7) kk221 ia221 rfl
theorem i221_11 {xs : List Int32} : xtI (xTa xs) 221 11 = some (.iload 4, 2) := x_ins (j := 8) kk221 ia221 rfl
theorem i221_13 {xs : List Int32} : xtI (xTa xs) 221 13 = some (.iaload, 1) := x_ins (j := 9) kk221 ia221 rfl
theorem i221_14 {xs : List Int32} : xtI (xTa xs) 221 14 = some (.iconst 2, 1) := x_ins (j := 10) kk221 ia221 rfl
theorem i221_15 {xs : List Int32} : xtI (xTa xs) 221 15 = some (.if_icmp .ne 24, 3) := x_ins (j := 11) kk221 ia221 rfl
theorem i221_18 {xs : List Int32} : xtI (xTa xs) 221 18 = some (.aload_n 0, 1) := x_ins (j := 12) kk221 ia221 rfl
theorem i221_19 {xs : List Int32} : xtI (xTa xs) 221 19 = some (.getfield 71, 3) := x_ins (j := 13) kk221 ia221 rfl
theorem i221_22 {xs : List Int32} : xtI (xTa xs) 221 22 = some (.iload 4, 2) := x_ins (j := 14) kk221 ia221 rfl
theorem i221_24 {xs : List Int32} : xtI (xTa xs) 221 24 = some (.iaload, 1) := x_ins (j := 15) kk221 ia221 rfl
theorem i221_25 {xs : List Int32} : xtI (xTa xs) 221 25 = some (.aload_n 0, 1) := x_ins (j := 16) kk221 ia221 rfl
theorem i221_26 {xs : List Int32} : xtI (xTa xs) 221 26 = some (.getfield 38, 3) := x_ins (j := 17) kk221 ia221 rfl
theorem i221_29 {xs : List Int32} : xtI (xTa xs) 221 29 = some (.iload 5, 2) := x_ins (j := 18) kk221 ia221 rfl
theorem i221_31 {xs : List Int32} : xtI (xTa xs) 221 31 = some (.iaload, 1) := x_ins (j := 19) kk221 ia221 rfl
theorem i221_32 {xs : List Int32} : xtI (xTa xs) 221 32 = some (.if_icmp .ne 7, 3) := x_ins (j := 20) kk221 ia221 rfl
theorem i221_35 {xs : List Int32} : xtI (xTa xs) 221 35 = some (.iconst 1, 1) := x_ins (j := 21) kk221 ia221 rfl
theorem i221_36 {xs : List Int32} : xtI (xTa xs) 221 36 = some (.goto 4, 3) := x_ins (j := 22) kk221 ia221 rfl
theorem i221_39 {xs : List Int32} : xtI (xTa xs) 221 39 = some (.iconst 0, 1) := x_ins (j := 23) kk221 ia221 rfl
theorem i221_40 {xs : List Int32} : xtI (xTa xs) 221 40 = some (.istore 6, 2) := x_ins (j := 24) kk221 ia221 rfl
theorem i221_42 {xs : List Int32} : xtI (xTa xs) 221 42 = some (.iconst 0, 1) := x_ins (j := 25) kk221 ia221 rfl
theorem i221_43 {xs : List Int32} : xtI (xTa xs) 221 43 = some (.istore 7, 2) := x_ins (j := 26) kk221 ia221 rfl
theorem i221_45 {xs : List Int32} : xtI (xTa xs) 221 45 = some (.iload 7, 2) := x_ins (j := 27) kk221 ia221 rfl
theorem i221_47 {xs : List Int32} : xtI (xTa xs) 221 47 = some (.aload_n 0, 1) := x_ins (j := 28) kk221 ia221 rfl
theorem i221_48 {xs : List Int32} : xtI (xTa xs) 221 48 = some (.getfield 71, 3) := x_ins (j := 29) kk221 ia221 rfl
theorem i221_51 {xs : List Int32} : xtI (xTa xs) 221 51 = some (.iload 4, 2) := x_ins (j := 30) kk221 ia221 rfl
theorem i221_53 {xs : List Int32} : xtI (xTa xs) 221 53 = some (.iaload, 1) := x_ins (j := 31) kk221 ia221 rfl
theorem i221_54 {xs : List Int32} : xtI (xTa xs) 221 54 = some (.if_icmp .ge 58, 3) := x_ins (j := 32) kk221 ia221 rfl
theorem i221_57 {xs : List Int32} : xtI (xTa xs) 221 57 = some (.iload 6, 2) := x_ins (j := 33) kk221 ia221 rfl
theorem i221_59 {xs : List Int32} : xtI (xTa xs) 221 59 = some (.ifCond .eq 53, 3) := x_ins (j := 34) kk221 ia221 rfl
theorem i221_62 {xs : List Int32} : xtI (xTa xs) 221 62 = some (.aload_n 0, 1) := x_ins (j := 35) kk221 ia221 rfl
theorem i221_63 {xs : List Int32} : xtI (xTa xs) 221 63 = some (.getfield 35, 3) := x_ins (j := 36) kk221 ia221 rfl
theorem i221_66 {xs : List Int32} : xtI (xTa xs) 221 66 = some (.bipush 10, 2) := x_ins (j := 37) kk221 ia221 rfl
theorem i221_68 {xs : List Int32} : xtI (xTa xs) 221 68 = some (.iload 5, 2) := x_ins (j := 38) kk221 ia221 rfl
theorem i221_70 {xs : List Int32} : xtI (xTa xs) 221 70 = some (.imul, 1) := x_ins (j := 39) kk221 ia221 rfl
theorem i221_71 {xs : List Int32} : xtI (xTa xs) 221 71 = some (.iload 7, 2) := x_ins (j := 40) kk221 ia221 rfl
theorem i221_73 {xs : List Int32} : xtI (xTa xs) 221 73 = some (.iadd, 1) := x_ins (j := 41) kk221 ia221 rfl
theorem i221_74 {xs : List Int32} : xtI (xTa xs) 221 74 = some (.iaload, 1) := x_ins (j := 42) kk221 ia221 rfl
theorem i221_75 {xs : List Int32} : xtI (xTa xs) 221 75 = some (.aload_n 0, 1) := x_ins (j := 43) kk221 ia221 rfl
theorem i221_76 {xs : List Int32} : xtI (xTa xs) 221 76 = some (.getfield 41, 3) := x_ins (j := 44) kk221 ia221 rfl
theorem i221_79 {xs : List Int32} : xtI (xTa xs) 221 79 = some (.sipush 600, 3) := x_ins (j := 45) kk221 ia221 rfl
theorem i221_82 {xs : List Int32} : xtI (xTa xs) 221 82 = some (.iload_n 3, 1) := x_ins (j := 46) kk221 ia221 rfl
theorem i221_83 {xs : List Int32} : xtI (xTa xs) 221 83 = some (.imul, 1) := x_ins (j := 47) kk221 ia221 rfl
theorem i221_84 {xs : List Int32} : xtI (xTa xs) 221 84 = some (.aload_n 0, 1) := x_ins (j := 48) kk221 ia221 rfl
theorem i221_85 {xs : List Int32} : xtI (xTa xs) 221 85 = some (.getfield 68, 3) := x_ins (j := 49) kk221 ia221 rfl
theorem i221_88 {xs : List Int32} : xtI (xTa xs) 221 88 = some (.iload 4, 2) := x_ins (j := 50) kk221 ia221 rfl
theorem i221_90 {xs : List Int32} : xtI (xTa xs) 221 90 = some (.iaload, 1) := x_ins (j := 51) kk221 ia221 rfl
theorem i221_91 {xs : List Int32} : xtI (xTa xs) 221 91 = some (.iadd, 1) := x_ins (j := 52) kk221 ia221 rfl
theorem i221_92 {xs : List Int32} : xtI (xTa xs) 221 92 = some (.iload 7, 2) := x_ins (j := 53) kk221 ia221 rfl
theorem i221_94 {xs : List Int32} : xtI (xTa xs) 221 94 = some (.iadd, 1) := x_ins (j := 54) kk221 ia221 rfl
theorem i221_95 {xs : List Int32} : xtI (xTa xs) 221 95 = some (.iaload, 1) := x_ins (j := 55) kk221 ia221 rfl
theorem i221_96 {xs : List Int32} : xtI (xTa xs) 221 96 = some (.if_icmp .ne 7, 3) := x_ins (j := 56) kk221 ia221 rfl
theorem i221_99 {xs : List Int32} : xtI (xTa xs) 221 99 = some (.iconst 1, 1) := x_ins (j := 57) kk221 ia221 rfl
theorem i221_100 {xs : List Int32} : xtI (xTa xs) 221 100 = some (.goto 4, 3) := x_ins (j := 58) kk221 ia221 rfl
theorem i221_103 {xs : List Int32} : xtI (xTa xs) 221 103 = some (.iconst 0, 1) := x_ins (j := 59) kk221 ia221 rfl
theorem i221_104 {xs : List Int32} : xtI (xTa xs) 221 104 = some (.istore 6, 2) := x_ins (j := 60) kk221 ia221 rfl
theorem i221_106 {xs : List Int32} : xtI (xTa xs) 221 106 = some (.iinc 7 1, 3) := x_ins (j := 61) kk221 ia221 rfl
theorem i221_109 {xs : List Int32} : xtI (xTa xs) 221 109 = some (.goto (-64), 3) := x_ins (j := 62) kk221 ia221 rfl
theorem i221_112 {xs : List Int32} : xtI (xTa xs) 221 112 = some (.iload 6, 2) := x_ins (j := 63) kk221 ia221 rfl
theorem i221_114 {xs : List Int32} : xtI (xTa xs) 221 114 = some (.ireturn, 1) := x_ins (j := 64) kk221 ia221 rfl
theorem kk222 : xK0.getD 222 [] = k222 := rfl
set_option maxRecDepth 100000 in
theorem ia222 : (k222.all fun e => decide (k222.lookup e.1 = some e.2)) = true := by decide +kernel
theorem i222_0 {xs : List Int32} : xtI (xTa xs) 222 0 = some (.iconst 0, 1) := x_ins (j := 0) kk222 ia222 rfl
theorem i222_1 {xs : List Int32} : xtI (xTa xs) 222 1 = some (.istore_n 2, 1) := x_ins (j := 1) kk222 ia222 rfl
theorem i222_2 {xs : List Int32} : xtI (xTa xs) 222 2 = some (.iload_n 2, 1) := x_ins (j := 2) kk222 ia222 rfl
theorem i222_3 {xs : List Int32} : xtI (xTa xs) 222 3 = some (.aload_n 0, 1) := x_ins (j := 3) kk222 ia222 rfl
theorem i222_4 {xs : List Int32} : xtI (xTa xs) 222 4 = some (.getfield 47, 3) := x_ins (j := 4) kk222 ia222 rfl
theorem i222_7 {xs : List Int32} : xtI (xTa xs) 222 7 = some (.iload_n 1, 1) := x_ins (j := 5) kk222 ia222 rfl
theorem i222_8 {xs : List Int32} : xtI (xTa xs) 222 8 = some (.iaload, 1) := x_ins (j := 6) kk222 ia222 rfl
theorem i222_9 {xs : List Int32} : xtI (xTa xs) 222 9 = some (.if_icmp .ge 170, 3) := x_ins (j := 7) kk222 ia222 rfl
theorem i222_12 {xs : List Int32} : xtI (xTa xs) 222 12 = some (.bipush 24, 2) := x_ins (j := 8) kk222 ia222 rfl
theorem i222_14 {xs : List Int32} : xtI (xTa xs) 222 14 = some (.iload_n 1, 1) := x_ins (j := 9) kk222 ia222 rfl
theorem i222_15 {xs : List Int32} : xtI (xTa xs) 222 15 = some (.imul, 1) := x_ins (j := 10) kk222 ia222 rfl
theorem i222_16 {xs : List Int32} : xtI (xTa xs) 222 16 = some (.iload_n 2, 1) := x_ins (j := 11) kk222 ia222 rfl
theorem i222_17 {xs : List Int32} : xtI (xTa xs) 222 17 = some (.iadd, 1) := x_ins (j := 12) kk222 ia222 rfl
theorem i222_18 {xs : List Int32} : xtI (xTa xs) 222 18 = some (.istore_n 3, 1) := x_ins (j := 13) kk222 ia222 rfl
theorem i222_19 {xs : List Int32} : xtI (xTa xs) 222 19 = some (.aload_n 0, 1) := x_ins (j := 14) kk222 ia222 rfl
theorem i222_20 {xs : List Int32} : xtI (xTa xs) 222 20 = some (.getfield 53, 3) := x_ins (j := 15) kk222 ia222 rfl
theorem i222_23 {xs : List Int32} : xtI (xTa xs) 222 23 = some (.iload_n 3, 1) := x_ins (j := 16) kk222 ia222 rfl
theorem i222_24 {xs : List Int32} : xtI (xTa xs) 222 24 = some (.iaload, 1) := x_ins (j := 17) kk222 ia222 rfl
theorem i222_25 {xs : List Int32} : xtI (xTa xs) 222 25 = some (.iconst 4, 1) := x_ins (j := 18) kk222 ia222 rfl
theorem i222_26 {xs : List Int32} : xtI (xTa xs) 222 26 = some (.if_icmp .eq 13, 3) := x_ins (j := 19) kk222 ia222 rfl
theorem i222_29 {xs : List Int32} : xtI (xTa xs) 222 29 = some (.aload_n 0, 1) := x_ins (j := 20) kk222 ia222 rfl
theorem i222_30 {xs : List Int32} : xtI (xTa xs) 222 30 = some (.getfield 53, 3) := x_ins (j := 21) kk222 ia222 rfl
theorem i222_33 {xs : List Int32} : xtI (xTa xs) 222 33 = some (.iload_n 3, 1) := x_ins (j := 22) kk222 ia222 rfl
theorem i222_34 {xs : List Int32} : xtI (xTa xs) 222 34 = some (.iaload, 1) := x_ins (j := 23) kk222 ia222 rfl
theorem i222_35 {xs : List Int32} : xtI (xTa xs) 222 35 = some (.iconst 5, 1) := x_ins (j := 24) kk222 ia222 rfl
theorem i222_36 {xs : List Int32} : xtI (xTa xs) 222 36 = some (.if_icmp .ne 45, 3) := x_ins (j := 25) kk222 ia222 rfl
theorem i222_39 {xs : List Int32} : xtI (xTa xs) 222 39 = some (.aload_n 0, 1) := x_ins (j := 26) kk222 ia222 rfl
theorem i222_40 {xs : List Int32} : xtI (xTa xs) 222 40 = some (.iload_n 1, 1) := x_ins (j := 27) kk222 ia222 rfl
theorem i222_41 {xs : List Int32} : xtI (xTa xs) 222 41 = some (.aload_n 0, 1) := x_ins (j := 28) kk222 ia222 rfl
theorem i222_42 {xs : List Int32} : xtI (xTa xs) 222 42 = some (.getfield 41, 3) := x_ins (j := 29) kk222 ia222 rfl
theorem i222_45 {xs : List Int32} : xtI (xTa xs) 222 45 = some (.sipush 600, 3) := x_ins (j := 30) kk222 ia222 rfl
theorem i222_48 {xs : List Int32} : xtI (xTa xs) 222 48 = some (.iload_n 1, 1) := x_ins (j := 31) kk222 ia222 rfl
theorem i222_49 {xs : List Int32} : xtI (xTa xs) 222 49 = some (.imul, 1) := x_ins (j := 32) kk222 ia222 rfl
theorem i222_50 {xs : List Int32} : xtI (xTa xs) 222 50 = some (.aload_n 0, 1) := x_ins (j := 33) kk222 ia222 rfl
theorem i222_51 {xs : List Int32} : xtI (xTa xs) 222 51 = some (.getfield 68, 3) := x_ins (j := 34) kk222 ia222 rfl
theorem i222_54 {xs : List Int32} : xtI (xTa xs) 222 54 = some (.iload_n 3, 1) := x_ins (j := 35) kk222 ia222 rfl
theorem i222_55 {xs : List Int32} : xtI (xTa xs) 222 55 = some (.iaload, 1) := x_ins (j := 36) kk222 ia222 rfl
theorem i222_56 {xs : List Int32} : xtI (xTa xs) 222 56 = some (.iadd, 1) := x_ins (j := 37) kk222 ia222 rfl
theorem i222_57 {xs : List Int32} : xtI (xTa xs) 222 57 = some (.aload_n 0, 1) := x_ins (j := 38) kk222 ia222 rfl
theorem i222_58 {xs : List Int32} : xtI (xTa xs) 222 58 = some (.getfield 71, 3) := x_ins (j := 39) kk222 ia222 rfl
theorem i222_61 {xs : List Int32} : xtI (xTa xs) 222 61 = some (.iload_n 3, 1) := x_ins (j := 40) kk222 ia222 rfl
theorem i222_62 {xs : List Int32} : xtI (xTa xs) 222 62 = some (.iaload, 1) := x_ins (j := 41) kk222 ia222 rfl
theorem i222_63 {xs : List Int32} : xtI (xTa xs) 222 63 = some (.invokevirtual 215, 3) := x_ins (j := 42) kk222 ia222 rfl
theorem i222_66 {xs : List Int32} : xtI (xTa xs) 222 66 = some (.iconst (-1), 1) := x_ins (j := 43) kk222 ia222 rfl
theorem i222_67 {xs : List Int32} : xtI (xTa xs) 222 67 = some (.if_icmp .ne 14, 3) := x_ins (j := 44) kk222 ia222 rfl
theorem i222_70 {xs : List Int32} : xtI (xTa xs) 222 70 = some (.aload_n 0, 1) := x_ins (j := 45) kk222 ia222 rfl
theorem i222_71 {xs : List Int32} : xtI (xTa xs) 222 71 = some (.iconst 2, 1) := x_ins (j := 46) kk222 ia222 rfl
theorem i222_72 {xs : List Int32} : xtI (xTa xs) 222 72 = some (.aload_n 0, 1) := x_ins (j := 47) kk222 ia222 rfl
theorem i222_73 {xs : List Int32} : xtI (xTa xs) 222 73 = some (.getfield 65, 3) := x_ins (j := 48) kk222 ia222 rfl
theorem i222_76 {xs : List Int32} : xtI (xTa xs) 222 76 = some (.iload_n 3, 1) := x_ins (j := 49) kk222 ia222 rfl
theorem i222_77 {xs : List Int32} : xtI (xTa xs) 222 77 = some (.iaload, 1) := x_ins (j := 50) kk222 ia222 rfl
theorem i222_78 {xs : List Int32} : xtI (xTa xs) 222 78 = some (.invokevirtual 462, 3) := x_ins (j := 51) kk222 ia222 rfl
theorem i222_81 {xs : List Int32} : xtI (xTa xs) 222 81 = some (.iconst 0, 1) := x_ins (j := 52) kk222 ia222 rfl
theorem i222_82 {xs : List Int32} : xtI (xTa xs) 222 82 = some (.istore 4, 2) := x_ins (j := 53) kk222 ia222 rfl
theorem i222_84 {xs : List Int32} : xtI (xTa xs) 222 84 = some (.iload 4, 2) := x_ins (j := 54) kk222 ia222 rfl
theorem i222_86 {xs : List Int32} : xtI (xTa xs) 222 86 = some (.aload_n 0, 1) := x_ins (j := 55) kk222 ia222 rfl
theorem i222_87 {xs : List Int32} : xtI (xTa xs) 222 87 = some (.getfield 62, 3) := x_ins (j := 56) kk222 ia222 rfl
theorem i222_90 {xs : List Int32} : xtI (xTa xs) 222 90 = some (.iload_n 3, 1) := x_ins (j := 57) kk222 ia222 rfl
theorem i222_91 {xs : List Int32} : xtI (xTa xs) 222 91 = some (.iaload, 1) := x_ins (j := 58) kk222 ia222 rfl
theorem i222_92 {xs : List Int32} : xtI (xTa xs) 222 92 = some (.if_icmp .ge 81, 3) := x_ins (j := 59) kk222 ia222 rfl
theorem i222_95 {xs : List Int32} : xtI (xTa xs) 222 95 = some (.bipush 120, 2) := x_ins (j := 60) kk222 ia222 rfl
theorem i222_97 {xs : List Int32} : xtI (xTa xs) 222 97 = some (.iload_n 1, 1) := x_ins (j := 61) kk222 ia222 rfl
theorem i222_98 {xs : List Int32} : xtI (xTa xs) 222 98 = some (.imul, 1) := x_ins (j := 62) kk222 ia222 rfl
theorem i222_99 {xs : List Int32} : xtI (xTa xs) 222 99 = some (.aload_n 0, 1) := x_ins (j := 63) kk222 ia222 rfl
theorem i222_100 {xs : List Int32} : xtI (xTa xs) 222 100 = some (.getfield 59, 3) := x_ins (j := 64) kk222 ia222 rfl
theorem i222_103 {xs : List Int32} : xtI (xTa xs) 222 103 = some (.iload_n 3, 1) := x_ins (j := 65) kk222 ia222 rfl
theorem i222_104 {xs : List Int32} : xtI (xTa xs) 222 104 = some (.iaload, 1) := x_ins (j := 66) kk222 ia222 rfl
theorem i222_105 {xs : List Int32} : xtI (xTa xs) 222 105 = some (.iadd, 1) := x_ins (j := 67) kk222 ia222 rfl
theorem i222_106 {xs : List Int32} : xtI (xTa xs) 222 106 = some (.iload 4, 2) := x_ins (j := 68) kk222 ia222 rfl
theorem i222_108 {xs : List Int32} : xtI (xTa xs) 222 108 = some (.iadd, 1) := x_ins (j := 69) kk222 ia222 rfl
theorem i222_109 {xs : List Int32} : xtI (xTa xs) 222 109 = some (.istore 5, 2) := x_ins (j := 70) kk222 ia222 rfl
theorem i222_111 {xs : List Int32} : xtI (xTa xs) 222 111 = some (.aload_n 0, 1) := x_ins (j := 71) kk222 ia222 rfl
theorem i222_112 {xs : List Int32} : xtI (xTa xs) 222 112 = some (.getfield 77, 3) := x_ins (j := 72) kk222 ia222 rfl
theorem i222_115 {xs : List Int32} : xtI (xTa xs) 222 115 = some (.iload 5, 2) := x_ins (j := 73) kk222 ia222 rfl
theorem i222_117 {xs : List Int32} : xtI (xTa xs) 222 117 = some (.iaload, 1) := x_ins (j := 74) kk222 ia222 rfl
theorem i222_118 {xs : List Int32} : xtI (xTa xs) 222 118 = some (.iconst 2, 1) := x_ins (j := 75) kk222 ia222 rfl
theorem i222_119 {xs : List Int32} : xtI (xTa xs) 222 119 = some (.if_icmp .ne 48, 3) := x_ins (j := 76) kk222 ia222 rfl
theorem i222_122 {xs : List Int32} : xtI (xTa xs) 222 122 = some (.aload_n 0, 1) := x_ins (j := 77) kk222 ia222 rfl
theorem i222_123 {xs : List Int32} : xtI (xTa xs) 222 123 = some (.iload_n 1, 1) := x_ins (j := 78) kk222 ia222 rfl
theorem i222_124 {xs : List Int32} : xtI (xTa xs) 222 124 = some (.aload_n 0, 1) := x_ins (j := 79) kk222 ia222 rfl
theorem i222_125 {xs : List Int32} : xtI (xTa xs) 222 125 = some (.getfield 41, 3) := x_ins (j := 80) kk222 ia222 rfl
theorem i222_128 {xs : List Int32} : xtI (xTa xs) 222 128 = some (.sipush 600, 3) := x_ins (j := 81) kk222 ia222 rfl
theorem i222_131 {xs : List Int32} : xtI (xTa xs) 222 131 = some (.iload_n 1, 1) := x_ins (j := 82) kk222 ia222 rfl
theorem i222_132 {xs : List Int32} : xtI (xTa xs) 222 132 = some (.imul, 1) := x_ins (j := 83) kk222 ia222 rfl
theorem i222_133 {xs : List Int32} : xtI (xTa xs) 222 133 = some (.aload_n 0, 1) := x_ins (j := 84) kk222 ia222 rfl
theorem i222_134 {xs : List Int32} : xtI (xTa xs) 222 134 = some (.getfield 92, 3) := x_ins (j := 85) kk222 ia222 rfl
theorem i222_137 {xs : List Int32} : xtI (xTa xs) 222 137 = some (.iload 5, 2) := x_ins (j := 86) kk222 ia222 rfl
theorem i222_139 {xs : List Int32} : xtI (xTa xs) 222 139 = some (.iaload, 1) := x_ins (j := 87) kk222 ia222 rfl
theorem i222_140 {xs : List Int32} : xtI (xTa xs) 222 140 = some (.iadd, 1) := x_ins (j := 88) kk222 ia222 rfl
theorem i222_141 {xs : List Int32} : xtI (xTa xs) 222 141 = some (.aload_n 0, 1) := x_ins (j := 89) kk222 ia222 rfl
theorem i222_142 {xs : List Int32} : xtI (xTa xs) 222 142 = some (.getfield 95, 3) := x_ins (j := 90) kk222 ia222 rfl
theorem i222_145 {xs : List Int32} : xtI (xTa xs) 222 145 = some (.iload 5, 2) := x_ins (j := 91) kk222 ia222 rfl
theorem i222_147 {xs : List Int32} : xtI (xTa xs) 222 147 = some (.iaload, 1) := x_ins (j := 92) kk222 ia222 rfl
theorem i222_148 {xs : List Int32} : xtI (xTa xs) 222 148 = some (.invokevirtual 215, 3) := x_ins (j := 93) kk222 ia222 rfl
theorem i222_151 {xs : List Int32} : xtI (xTa xs) 222 151 = some (.iconst (-1), 1) := x_ins (j := 94) kk222 ia222 rfl
theorem i222_152 {xs : List Int32} : xtI (xTa xs) 222 152 = some (.if_icmp .ne 15, 3) := x_ins (j := 95) kk222 ia222 rfl
theorem i222_155 {xs : List Int32} : xtI (xTa xs) 222 155 = some (.aload_n 0, 1) := x_ins (j := 96) kk222 ia222 rfl
theorem i222_156 {xs : List Int32} : xtI (xTa xs) 222 156 = some (.iconst 2, 1) := x_ins (j := 97) kk222 ia222 rfl
theorem i222_157 {xs : List Int32} : xtI (xTa xs) 222 157 = some (.aload_n 0, 1) := x_ins (j := 98) kk222 ia222 rfl
theorem i222_158 {xs : List Int32} : xtI (xTa xs) 222 158 = some (.getfield 80, 3) := x_ins (j := 99) kk222 ia222 rfl
theorem i222_161 {xs : List Int32} : xtI (xTa xs) 222 161 = some (.iload 5, 2) := x_ins (j := 100) kk222 ia222 rfl
theorem i222_163 {xs : List Int32} : xtI (xTa xs) 222 163 = some (.iaload, 1) := x_ins (j := 101) kk222 ia222 rfl
theorem i222_164 {xs : List Int32} : xtI (xTa xs) 222 164 = some (.invokevirtual 462, 3) := x_ins (j := 102) kk222 ia222 rfl
theorem i222_167 {xs : List Int32} : xtI (xTa xs) 222 167 = some (.iinc 4 1, 3) := x_ins (j := 103) kk222 ia222 rfl
theorem i222_170 {xs : List Int32} : xtI (xTa xs) 222 170 = some (.goto (-86), 3) := x_ins (j := 104) kk222 ia222 rfl
theorem i222_173 {xs : List Int32} : xtI (xTa xs) 222 173 = some (.iinc 2 1, 3) := x_ins (j := 105) kk222 ia222 rfl
theorem i222_176 {xs : List Int32} : xtI (xTa xs) 222 176 = some (.goto (-174), 3) := x_ins (j := 106) kk222 ia222 rfl
theorem i222_179 {xs : List Int32} : xtI (xTa xs) 222 179 = some (.return_, 1) := x_ins (j := 107) kk222 ia222 rfl
theorem kk223 : xK0.getD 223 [] = k223 := rfl
set_option maxRecDepth 100000 in
theorem ia223 : (k223.all fun e => decide (k223.lookup e.1 = some e.2)) = true := by decide +kernel
theorem i223_0 {xs : List Int32} : xtI (xTa xs) 223 0 = some (.iconst 0, 1) := x_ins (j := 0) kk223 ia223 rfl
theorem i223_1 {xs : List Int32} : xtI (xTa xs) 223 1 = some (.istore 4, 2) := x_ins (j := 1) kk223 ia223 rfl
theorem i223_3 {xs : List Int32} : xtI (xTa xs) 223 3 = some (.iload_n 1, 1) := x_ins (j := 2) kk223 ia223 rfl
theorem i223_4 {xs : List Int32} : xtI (xTa xs) 223 4 = some (.istore 5, 2) := x_ins (j := 3) kk223 ia223 rfl
theorem i223_6 {xs : List Int32} : xtI (xTa xs) 223 6 = some (.iload 5, 2) := x_ins (j := 4) kk223 ia223 rfl
theorem i223_8 {xs : List Int32} : xtI (xTa xs) 223 8 = some (.iconst (-1), 1) := x_ins (j := 5) kk223 ia223 rfl
theorem i223_9 {xs : List Int32} : xtI (xTa xs) 223 9 = some (.if_icmp .eq 86, 3) := x_ins (j := 6) kk223 ia223 rfl
theorem i223_12 {xs : List Int32} : xtI (xTa xs) 223 12 = some (.iconst 0, 1) := x_ins (j := 7) kk223 ia223 rfl
theorem i223_13 {xs : List Int32} : xtI (xTa xs) 223 13 = some (.istore 6, 2) := x_ins (j := 8) kk223 ia223 rfl
theorem i223_15 {xs : List Int32} : xtI (xTa xs) 223 15 = some (.iload 6, 2) := x_ins (j := 9) kk223 ia223 rfl
theorem i223_17 {xs : List Int32} : xtI (xTa xs) 223 17 = some (.aload_n 0, 1) := x_ins (j := 10) kk223 ia223 rfl
theorem i223_18 {xs : List Int32} : xtI (xTa xs) 223 18 = some (.getfield 47, 3) := x_ins (j := 11) kk223 ia223 rfl
theorem i223_21 {xs : List Int32} : xtI (xTa xs) 223 21 = some (.iload 5, 2) := x_ins (j := 12) kk223 ia223 rfl
theorem i223_23 {xs : List Int32} : xtI (xTa xs) 223 23 = some (.iaload, 1) := x_ins (j := 13) kk223 ia223 rfl
theorem i223_24 {xs : List Int32} : xtI (xTa xs) 223 24 = some (.if_icmp .ge 60, 3) := x_ins (j := 14) kk223 ia223 rfl
theorem i223_27 {xs : List Int32} : xtI (xTa xs) 223 27 = some (.bipush 24, 2) := x_ins (j := 15) kk223 ia223 rfl
theorem i223_29 {xs : List Int32} : xtI (xTa xs) 223 29 = some (.iload 5, 2) := x_ins (j := 16) kk223 ia223 rfl
theorem i223_31 {xs : List Int32} : xtI (xTa xs) 223 31 = some (.imul, 1) := x_ins (j := 17) kk223 ia223 rfl
theorem i223_32 {xs : List Int32} : xtI (xTa xs) 223 32 = some (.iload 6, 2) := x_ins (j := 18) kk223 ia223 rfl
theorem i223_34 {xs : List Int32} : xtI (xTa xs) 223 34 = some (.iadd, 1) := x_ins (j := 19) kk223 ia223 rfl
theorem i223_35 {xs : List Int32} : xtI (xTa xs) 223 35 = some (.istore 7, 2) := x_ins (j := 20) kk223 ia223 rfl
theorem i223_37 {xs : List Int32} : xtI (xTa xs) 223 37 = some (.iload 4, 2) := x_ins (j := 21) kk223 ia223 rfl
theorem i223_39 {xs : List Int32} : xtI (xTa xs) 223 39 = some (.ifCond .ne 32, 3) := x_ins (j := 22) kk223 ia223 rfl
theorem i223_42 {xs : List Int32} : xtI (xTa xs) 223 42 = some (.aload_n 0, 1) := x_ins (j := 23) kk223 ia223 rfl
theorem i223_43 {xs : List Int32} : xtI (xTa xs) 223 43 = some (.getfield 53, 3) := x_ins (j := 24) kk223 ia223 rfl
theorem i223_46 {xs : List Int32} : xtI (xTa xs) 223 46 = some (.iload 7, 2) := x_ins (j := 25) kk223 ia223 rfl
theorem i223_48 {xs : List Int32} : xtI (xTa xs) 223 48 = some (.iaload, 1) := x_ins (j := 26) kk223 ia223 rfl
theorem i223_49 {xs : List Int32} : xtI (xTa xs) 223 49 = some (.iload_n 2, 1) := x_ins (j := 27) kk223 ia223 rfl
theorem i223_50 {xs : List Int32} : xtI (xTa xs) 223 50 = some (.if_icmp .ne 25, 3) := x_ins (j := 28) kk223 ia223 rfl
theorem i223_53 {xs : List Int32} : xtI (xTa xs) 223 53 = some (.iload_n 2, 1) := x_ins (j := 29) kk223 ia223 rfl
theorem i223_54 {xs : List Int32} : xtI (xTa xs) 223 54 = some (.iconst 3, 1) := x_ins (j := 30) kk223 ia223 rfl
theorem i223_55 {xs : List Int32} : xtI (xTa xs) 223 55 = some (.if_icmp .eq 16, 3) := x_ins (j := 31) kk223 ia223 rfl
theorem i223_58 {xs : List Int32} : xtI (xTa xs) 223 58 = some (.aload_n 0, 1) := x_ins (j := 32) kk223 ia223 rfl
theorem i223_59 {xs : List Int32} : xtI (xTa xs) 223 59 = some (.iload_n 1, 1) := x_ins (j := 33) kk223 ia223 rfl
theorem i223_60 {xs : List Int32} : xtI (xTa xs) 223 60 = some (.iload_n 3, 1) := x_ins (j := 34) kk223 ia223 rfl
theorem i223_61 {xs : List Int32} : xtI (xTa xs) 223 61 = some (.iload 5, 2) := x_ins (j := 35) kk223 ia223 rfl
theorem i223_63 {xs : List Int32} : xtI (xTa xs) 223 63 = some (.iload 7, 2) := x_ins (j := 36) kk223 ia223 rfl
theorem i223_65 {xs : List Int32} : xtI (xTa xs) 223 65 = some (.invokevirtual 458, 3) := x_ins (j := 37) kk223 ia223 rfl
theorem i223_68 {xs : List Int32} : xtI (xTa xs) 223 68 = some (.ifCond .eq 7, 3) := x_ins (j := 38) kk223 ia223 rfl
theorem i223_71 {xs : List Int32} : xtI (xTa xs) 223 71 = some (.iconst 1, 1) := x_ins (j := 39) kk223 ia223 rfl
theorem i223_72 {xs : List Int32} : xtI (xTa xs) 223 72 = some (.goto 4, 3) := x_ins (j := 40) kk223 ia223 rfl
theorem i223_75 {xs : List Int32} : xtI (xTa xs) 223 75 = some (.iconst 0, 1) := x_ins (j := 41) kk223 ia223 rfl
theorem i223_76 {xs : List Int32} : xtI (xTa xs) 223 76 = some (.istore 4, 2) := x_ins (j := 42) kk223 ia223 rfl
theorem i223_78 {xs : List Int32} : xtI (xTa xs) 223 78 = some (.iinc 6 1, 3) := x_ins (j := 43) kk223 ia223 rfl
theorem i223_81 {xs : List Int32} : xtI (xTa xs) 223 81 = some (.goto (-66), 3) := x_ins (j := 44) kk223 ia223 rfl
theorem i223_84 {xs : List Int32} : xtI (xTa xs) 223 84 = some (.aload_n 0, 1) := x_ins (j := 45) kk223 ia223 rfl
theorem i223_85 {xs : List Int32} : xtI (xTa xs) 223 85 = some (.iload 5, 2) := x_ins (j := 46) kk223 ia223 rfl
theorem i223_87 {xs : List Int32} : xtI (xTa xs) 223 87 = some (.invokevirtual 198, 3) := x_ins (j := 47) kk223 ia223 rfl
theorem i223_90 {xs : List Int32} : xtI (xTa xs) 223 90 = some (.istore 5, 2) := x_ins (j := 48) kk223 ia223 rfl
theorem i223_92 {xs : List Int32} : xtI (xTa xs) 223 92 = some (.goto (-86), 3) := x_ins (j := 49) kk223 ia223 rfl
theorem i223_95 {xs : List Int32} : xtI (xTa xs) 223 95 = some (.iload 4, 2) := x_ins (j := 50) kk223 ia223 rfl
theorem i223_97 {xs : List Int32} : xtI (xTa xs) 223 97 = some (.ireturn, 1) := x_ins (j := 51) kk223 ia223 rfl
theorem kk224 : xK0.getD 224 [] = k224 := rfl
set_option maxRecDepth 100000 in
theorem ia224 : (k224.all fun e => decide (k224.lookup e.1 = some e.2)) = true := by decide +kernel
theorem i224_0 {xs : List Int32} : xtI (xTa xs) 224 0 = some (.aload_n 0, 1) := x_ins (j := 0) kk224 ia224 rfl
theorem i224_1 {xs : List Int32} : xtI (xTa xs) 224 1 = some (.iload_n 1, 1) := x_ins (j := 1) kk224 ia224 rfl
theorem i224_2 {xs : List Int32} : xtI (xTa xs) 224 2 = some (.invokevirtual 161, 3) := x_ins (j := 2) kk224 ia224 rfl
theorem i224_5 {xs : List Int32} : xtI (xTa xs) 224 5 = some (.ifCond .ne 5, 3) := x_ins (j := 3) kk224 ia224 rfl
theorem i224_8 {xs : List Int32} : xtI (xTa xs) 224 8 = some (.iconst (-1), 1) := x_ins (j := 4) kk224 ia224 rfl
theorem i224_9 {xs : List Int32} : xtI (xTa xs) 224 9 = some (.ireturn, 1) := x_ins (j := 5) kk224 ia224 rfl
theorem i224_10 {xs : List Int32} : xtI (xTa xs) 224 10 = some (.aload_n 0, 1) := x_ins (j := 6) kk224 ia224 rfl
theorem i224_11 {xs : List Int32} : xtI (xTa xs) 224 11 = some (.iconst 0, 1) := x_ins (j := 7) kk224 ia224 rfl
theorem i224_12 {xs : List Int32} : xtI (xTa xs) 224 12 = some (.putfield 455, 3) := x_ins (j := 8) kk224 ia224 rfl
theorem i224_15 {xs : List Int32} : xtI (xTa xs) 224 15 = some (.aload_n 0, 1) := x_ins (j := 9) kk224 ia224 rfl
theorem i224_16 {xs : List Int32} : xtI (xTa xs) 224 16 = some (.iload_n 1, 1) := x_ins (j := 10) kk224 ia224 rfl
theorem i224_17 {xs : List Int32} : xtI (xTa xs) 224 17 = some (.invokevirtual 353, 3) := x_ins (j := 11) kk224 ia224 rfl
theorem i224_20 {xs : List Int32} : xtI (xTa xs) 224 20 = some (.iconst (-1), 1) := x_ins (j := 12) kk224 ia224 rfl
theorem i224_21 {xs : List Int32} : xtI (xTa xs) 224 21 = some (.if_icmp .ne 9, 3) := x_ins (j := 13) kk224 ia224 rfl
theorem i224_24 {xs : List Int32} : xtI (xTa xs) 224 24 = some (.aload_n 0, 1) := x_ins (j := 14) kk224 ia224 rfl
theorem i224_25 {xs : List Int32} : xtI (xTa xs) 224 25 = some (.iconst 1, 1) := x_ins (j := 15) kk224 ia224 rfl
theorem i224_26 {xs : List Int32} : xtI (xTa xs) 224 26 = some (.iconst 0, 1) := x_ins (j := 16) kk224 ia224 rfl
theorem i224_27 {xs : List Int32} : xtI (xTa xs) 224 27 = some (.invokevirtual 462, 3) := x_ins (j := 17) kk224 ia224 rfl
theorem i224_30 {xs : List Int32} : xtI (xTa xs) 224 30 = some (.aload_n 0, 1) := x_ins (j := 18) kk224 ia224 rfl
theorem i224_31 {xs : List Int32} : xtI (xTa xs) 224 31 = some (.iload_n 1, 1) := x_ins (j := 19) kk224 ia224 rfl
theorem i224_32 {xs : List Int32} : xtI (xTa xs) 224 32 = some (.invokevirtual 465, 3) := x_ins (j := 20) kk224 ia224 rfl
theorem i224_35 {xs : List Int32} : xtI (xTa xs) 224 35 = some (.aload_n 0, 1) := x_ins (j := 21) kk224 ia224 rfl
theorem i224_36 {xs : List Int32} : xtI (xTa xs) 224 36 = some (.iload_n 1, 1) := x_ins (j := 22) kk224 ia224 rfl
theorem i224_37 {xs : List Int32} : xtI (xTa xs) 224 37 = some (.invokevirtual 198, 3) := x_ins (j := 23) kk224 ia224 rfl
theorem i224_40 {xs : List Int32} : xtI (xTa xs) 224 40 = some (.istore_n 2, 1) := x_ins (j := 24) kk224 ia224 rfl
theorem i224_41 {xs : List Int32} : xtI (xTa xs) 224 41 = some (.iconst 3, 1) := x_ins (j := 25) kk224 ia224 rfl
theorem i224_42 {xs : List Int32} : xtI (xTa xs) 224 42 = some (.istore_n 3, 1) := x_ins (j := 26) kk224 ia224 rfl
theorem i224_43 {xs : List Int32} : xtI (xTa xs) 224 43 = some (.iload_n 3, 1) := x_ins (j := 27) kk224 ia224 rfl
theorem i224_44 {xs : List Int32} : xtI (xTa xs) 224 44 = some (.bipush 6, 2) := x_ins (j := 28) kk224 ia224 rfl
theorem i224_46 {xs : List Int32} : xtI (xTa xs) 224 46 = some (.if_icmp .ge 155, 3) := x_ins (j := 29) kk224 ia224 rfl
theorem i224_49 {xs : List Int32} : xtI (xTa xs) 224 49 = some (.iconst 0, 1) := x_ins (j := 30) kk224 ia224 rfl
theorem i224_50 {xs : List Int32} : xtI (xTa xs) 224 50 = some (.istore 4, 2) := x_ins (j := 31) kk224 ia224 rfl
theorem i224_52 {xs : List Int32} : xtI (xTa xs) 224 52 = some (.iload 4, 2) := x_ins (j := 32) kk224 ia224 rfl
theorem i224_54 {xs : List Int32} : xtI (xTa xs) 224 54 = some (.aload_n 0, 1) := x_ins (j := 33) kk224 ia224 rfl
theorem i224_55 {xs : List Int32} : xtI (xTa xs) 224 55 = some (.getfield 47, 3) := x_ins (j := 34) kk224 ia224 rfl
theorem i224_58 {xs : List Int32} : xtI (xTa xs) 224 58 = some (.iload_n 1, 1) := x_ins (j := 35) kk224 ia224 rfl
theorem i224_59 {xs : List Int32} : xtI (xTa xs) 224 59 = some (.iaload, 1) := x_ins (j := 36) kk224 ia224 rfl
theorem i224_60 {xs : List Int32} : xtI (xTa xs) 224 60 = some (.if_icmp .ge 135, 3) := x_ins (j := 37) kk224 ia224 rfl
theorem i224_63 {xs : List Int32} : xtI (xTa xs) 224 63 = some (.bipush 24, 2) := x_ins (j := 38) kk224 ia224 rfl
theorem i224_65 {xs : List Int32} : xtI (xTa xs) 224 65 = some (.iload_n 1, 1) := x_ins (j := 39) kk224 ia224 rfl
theorem i224_66 {xs : List Int32} : xtI (xTa xs) 224 66 = some (.imul, 1) := x_ins (j := 40) kk224 ia224 rfl
theorem i224_67 {xs : List Int32} : xtI (xTa xs) 224 67 = some (.iload 4, 2) := x_ins (j := 41) kk224 ia224 rfl
theorem i224_69 {xs : List Int32} : xtI (xTa xs) 224 69 = some (.iadd, 1) := x_ins (j := 42) kk224 ia224 rfl
theorem i224_70 {xs : List Int32} : xtI (xTa xs) 224 70 = some (.istore 5, 2) := x_ins (j := 43) kk224 ia224 rfl
theorem i224_72 {xs : List Int32} : xtI (xTa xs) 224 72 = some (.iload_n 3, 1) := x_ins (j := 44) kk224 ia224 rfl
theorem i224_73 {xs : List Int32} : xtI (xTa xs) 224 73 = some (.iconst 3, 1) := x_ins (j := 45) kk224 ia224 rfl
theorem i224_74 {xs : List Int32} : xtI (xTa xs) 224 74 = some (.if_icmp .ne 37, 3) := x_ins (j := 46) kk224 ia224 rfl
theorem i224_77 {xs : List Int32} : xtI (xTa xs) 224 77 = some (.aload_n 0, 1) := x_ins (j := 47) kk224 ia224 rfl
theorem i224_78 {xs : List Int32} : xtI (xTa xs) 224 78 = some (.getfield 53, 3) := x_ins (j := 48) kk224 ia224 rfl
theorem i224_81 {xs : List Int32} : xtI (xTa xs) 224 81 = some (.iload 5, 2) := x_ins (j := 49) kk224 ia224 rfl
theorem i224_83 {xs : List Int32} : xtI (xTa xs) 224 83 = some (.iaload, 1) := x_ins (j := 50) kk224 ia224 rfl
theorem i224_84 {xs : List Int32} : xtI (xTa xs) 224 84 = some (.bipush 7, 2) := x_ins (j := 51) kk224 ia224 rfl
theorem i224_86 {xs : List Int32} : xtI (xTa xs) 224 86 = some (.if_icmp .ne 21, 3) := x_ins (j := 52) kk224 ia224 rfl
theorem i224_89 {xs : List Int32} : xtI (xTa xs) 224 89 = some (.iload_n 2, 1) := x_ins (j := 53) kk224 ia224 rfl
theorem i224_90 {xs : List Int32} : xtI (xTa xs) 224 90 = some (.iconst (-1), 1) := x_ins (j := 54) kk224 ia224 rfl
theorem i224_91 {xs : List Int32} : xtI (xTa xs) 224 91 = some (.if_icmp .eq 12, 3) := x_ins (j := 55) kk224 ia224 rfl
theorem i224_94 {xs : List Int32} : xtI (xTa xs) 224 94 = some (.aload_n 0, 1) := x_ins (j := 56) kk224 ia224 rfl
theorem i224_95 {xs : List Int32} : xtI (xTa xs) 224 95 = some (.iload_n 2, 1) := x_ins (j := 57) kk224 ia224 rfl
theorem i224_96 {xs : List Int32} : xtI (xTa xs) 224 96 = some (.invokevirtual 353, 3) := x_ins (j := 58) kk224 ia224 rfl
theorem i224_99 {xs : List Int32} : xtI (xTa xs) 224 99 = some (.iconst (-1), 1) := x_ins (j := 59) kk224 ia224 rfl
theorem i224_100 {xs : List Int32} : xtI (xTa xs) 224 100 = some (.if_icmp .ne 7, 3) := x_ins (j := 60) kk224 ia224 rfl
theorem i224_103 {xs : List Int32} : xtI (xTa xs) 224 103 = some (.iconst 1, 1) := x_ins (j := 61) kk224 ia224 rfl
theorem i224_104 {xs : List Int32} : xtI (xTa xs) 224 104 = some (.goto 66, 3) := x_ins (j := 62) kk224 ia224 rfl
theorem i224_107 {xs : List Int32} : xtI (xTa xs) 224 107 = some (.iconst 0, 1) := x_ins (j := 63) kk224 ia224 rfl
theorem i224_108 {xs : List Int32} : xtI (xTa xs) 224 108 = some (.goto 62, 3) := x_ins (j := 64) kk224 ia224 rfl
theorem i224_111 {xs : List Int32} : xtI (xTa xs) 224 111 = some (.iload_n 3, 1) := x_ins (j := 65) kk224 ia224 rfl
theorem i224_112 {xs : List Int32} : xtI (xTa xs) 224 112 = some (.iconst 4, 1) := x_ins (j := 66) kk224 ia224 rfl
theorem i224_113 {xs : List Int32} : xtI (xTa xs) 224 113 = some (.if_icmp .ne 32, 3) := x_ins (j := 67) kk224 ia224 rfl
theorem i224_116 {xs : List Int32} : xtI (xTa xs) 224 116 = some (.aload_n 0, 1) := x_ins (j := 68) kk224 ia224 rfl
theorem i224_117 {xs : List Int32} : xtI (xTa xs) 224 117 = some (.getfield 53, 3) := x_ins (j := 69) kk224 ia224 rfl
theorem i224_120 {xs : List Int32} : xtI (xTa xs) 224 120 = some (.iload 5, 2) := x_ins (j := 70) kk224 ia224 rfl
theorem i224_122 {xs : List Int32} : xtI (xTa xs) 224 122 = some (.iaload, 1) := x_ins (j := 71) kk224 ia224 rfl
theorem i224_123 {xs : List Int32} : xtI (xTa xs) 224 123 = some (.iconst 2, 1) := x_ins (j := 72) kk224 ia224 rfl
theorem i224_124 {xs : List Int32} : xtI (xTa xs) 224 124 = some (.if_icmp .ne 17, 3) := x_ins (j := 73) kk224 ia224 rfl
theorem i224_127 {xs : List Int32} : xtI (xTa xs) 224 127 = some (.aload_n 0, 1) := x_ins (j := 74) kk224 ia224 rfl
theorem i224_128 {xs : List Int32} : xtI (xTa xs) 224 128 = some (.iload_n 1, 1) := x_ins (j := 75) kk224 ia224 rfl
theorem i224_129 {xs : List Int32} : xtI (xTa xs) 224 129 = some (.iload 5, 2) := x_ins (j := 76) kk224 ia224 rfl
theorem i224_131 {xs : List Int32} : xtI (xTa xs) 224 131 = some (.invokevirtual 468, 3) := x_ins (j := 77) kk224 ia224 rfl
theorem i224_134 {xs : List Int32} : xtI (xTa xs) 224 134 = some (.ifCond .ne 7, 3) := x_ins (j := 78) kk224 ia224 rfl
theorem i224_137 {xs : List Int32} : xtI (xTa xs) 224 137 = some (.iconst 1, 1) := x_ins (j := 79) kk224 ia224 rfl
theorem i224_138 {xs : List Int32} : xtI (xTa xs) 224 138 = some (.goto 32, 3) := x_ins (j := 80) kk224 ia224 rfl
theorem i224_141 {xs : List Int32} : xtI (xTa xs) 224 141 = some (.iconst 0, 1) := x_ins (j := 81) kk224 ia224 rfl
theorem i224_142 {xs : List Int32} : xtI (xTa xs) 224 142 = some (.goto 28, 3) := x_ins (j := 82) kk224 ia224 rfl
theorem i224_145 {xs : List Int32} : xtI (xTa xs) 224 145 = some (.aload_n 0, 1) := x_ins (j := 83) kk224 ia224 rfl
theorem i224_146 {xs : List Int32} : xtI (xTa xs) 224 146 = some (.getfield 53, 3) := x_ins (j := 84) kk224 ia224 rfl
theorem i224_149 {xs : List Int32} : xtI (xTa xs) 224 149 = some (.iload 5, 2) := x_ins (j := 85) kk224 ia224 rfl
theorem i224_151 {xs : List Int32} : xtI (xTa xs) 224 151 = some (.iaload, 1) := x_ins (j := 86) kk224 ia224 rfl
theorem i224_152 {xs : List Int32} : xtI (xTa xs) 224 152 = some (.iconst 3, 1) := x_ins (j := 87) kk224 ia224 rfl
theorem i224_153 {xs : List Int32} : xtI (xTa xs) 224 153 = some (.if_icmp .ne 16, 3) := x_ins (j := 88) kk224 ia224 rfl
theorem i224_156 {xs : List Int32} : xtI (xTa xs) 224 156 = some (.aload_n 0, 1) := x_ins (j := 89) kk224 ia224 rfl
theorem i224_157 {xs : List Int32} : xtI (xTa xs) 224 157 = some (.getfield 23, 3) := x_ins (j := 90) kk224 ia224 rfl
theorem i224_160 {xs : List Int32} : xtI (xTa xs) 224 160 = some (.iload_n 1, 1) := x_ins (j := 91) kk224 ia224 rfl
theorem i224_161 {xs : List Int32} : xtI (xTa xs) 224 161 = some (.baload, 1) := x_ins (j := 92) kk224 ia224 rfl
theorem i224_162 {xs : List Int32} : xtI (xTa xs) 224 162 = some (.ifCond .ne 7, 3) := x_ins (j := 93) kk224 ia224 rfl
theorem i224_165 {xs : List Int32} : xtI (xTa xs) 224 165 = some (.iconst 1, 1) := x_ins (j := 94) kk224 ia224 rfl
theorem i224_166 {xs : List Int32} : xtI (xTa xs) 224 166 = some (.goto 4, 3) := x_ins (j := 95) kk224 ia224 rfl
theorem i224_169 {xs : List Int32} : xtI (xTa xs) 224 169 = some (.iconst 0, 1) := x_ins (j := 96) kk224 ia224 rfl
theorem i224_170 {xs : List Int32} : xtI (xTa xs) 224 170 = some (.istore 6, 2) := x_ins (j := 97) kk224 ia224 rfl
theorem i224_172 {xs : List Int32} : xtI (xTa xs) 224 172 = some (.iload 6, 2) := x_ins (j := 98) kk224 ia224 rfl
theorem i224_174 {xs : List Int32} : xtI (xTa xs) 224 174 = some (.ifCond .eq 15, 3) := x_ins (j := 99) kk224 ia224 rfl
theorem i224_177 {xs : List Int32} : xtI (xTa xs) 224 177 = some (.aload_n 0, 1) := x_ins (j := 100) kk224 ia224 rfl
theorem i224_178 {xs : List Int32} : xtI (xTa xs) 224 178 = some (.iload_n 3, 1) := x_ins (j := 101) kk224 ia224 rfl
theorem i224_179 {xs : List Int32} : xtI (xTa xs) 224 179 = some (.aload_n 0, 1) := x_ins (j := 102) kk224 ia224 rfl
theorem i224_180 {xs : List Int32} : xtI (xTa xs) 224 180 = some (.getfield 65, 3) := x_ins (j := 103) kk224 ia224 rfl
theorem i224_183 {xs : List Int32} : xtI (xTa xs) 224 183 = some (.iload 5, 2) := x_ins (j := 104) kk224 ia224 rfl
theorem i224_185 {xs : List Int32} : xtI (xTa xs) 224 185 = some (.iaload, 1) := x_ins (j := 105) kk224 ia224 rfl
theorem i224_186 {xs : List Int32} : xtI (xTa xs) 224 186 = some (.invokevirtual 462, 3) := x_ins (j := 106) kk224 ia224 rfl
theorem i224_189 {xs : List Int32} : xtI (xTa xs) 224 189 = some (.iinc 4 1, 3) := x_ins (j := 107) kk224 ia224 rfl
theorem i224_192 {xs : List Int32} : xtI (xTa xs) 224 192 = some (.goto (-140), 3) := x_ins (j := 108) kk224 ia224 rfl
theorem i224_195 {xs : List Int32} : xtI (xTa xs) 224 195 = some (.iinc 3 1, 3) := x_ins (j := 109) kk224 ia224 rfl
theorem i224_198 {xs : List Int32} : xtI (xTa xs) 224 198 = some (.goto (-155), 3) := x_ins (j := 110) kk224 ia224 rfl
theorem i224_201 {xs : List Int32} : xtI (xTa xs) 224 201 = some (.iconst 0, 1) := x_ins (j := 111) kk224 ia224 rfl
theorem i224_202 {xs : List Int32} : xtI (xTa xs) 224 202 = some (.istore_n 3, 1) := x_ins (j := 112) kk224 ia224 rfl
theorem i224_203 {xs : List Int32} : xtI (xTa xs) 224 203 = some (.iload_n 3, 1) := x_ins (j := 113) kk224 ia224 rfl
theorem i224_204 {xs : List Int32} : xtI (xTa xs) 224 204 = some (.aload_n 0, 1) := x_ins (j := 114) kk224 ia224 rfl
theorem i224_205 {xs : List Int32} : xtI (xTa xs) 224 205 = some (.getfield 32, 3) := x_ins (j := 115) kk224 ia224 rfl
theorem i224_208 {xs : List Int32} : xtI (xTa xs) 224 208 = some (.iload_n 1, 1) := x_ins (j := 116) kk224 ia224 rfl
theorem i224_209 {xs : List Int32} : xtI (xTa xs) 224 209 = some (.iaload, 1) := x_ins (j := 117) kk224 ia224 rfl
theorem i224_210 {xs : List Int32} : xtI (xTa xs) 224 210 = some (.if_icmp .ge 26, 3) := x_ins (j := 118) kk224 ia224 rfl
theorem i224_213 {xs : List Int32} : xtI (xTa xs) 224 213 = some (.aload_n 0, 1) := x_ins (j := 119) kk224 ia224 rfl
theorem i224_214 {xs : List Int32} : xtI (xTa xs) 224 214 = some (.iload_n 1, 1) := x_ins (j := 120) kk224 ia224 rfl
theorem i224_215 {xs : List Int32} : xtI (xTa xs) 224 215 = some (.iconst 2, 1) := x_ins (j := 121) kk224 ia224 rfl
theorem i224_216 {xs : List Int32} : xtI (xTa xs) 224 216 = some (.iload_n 3, 1) := x_ins (j := 122) kk224 ia224 rfl
theorem i224_217 {xs : List Int32} : xtI (xTa xs) 224 217 = some (.invokevirtual 471, 3) := x_ins (j := 123) kk224 ia224 rfl
theorem i224_220 {xs : List Int32} : xtI (xTa xs) 224 220 = some (.ifCond .ne 10, 3) := x_ins (j := 124) kk224 ia224 rfl
theorem i224_223 {xs : List Int32} : xtI (xTa xs) 224 223 = some (.aload_n 0, 1) := x_ins (j := 125) kk224 ia224 rfl
theorem i224_224 {xs : List Int32} : xtI (xTa xs) 224 224 = some (.bipush 6, 2) := x_ins (j := 126) kk224 ia224 rfl
theorem i224_226 {xs : List Int32} : xtI (xTa xs) 224 226 = some (.iload_n 3, 1) := x_ins (j := 127) kk224 ia224 rfl
theorem i224_227 {xs : List Int32} : xtI (xTa xs) 224 227 = some (.invokevirtual 462, 3) := x_ins (j := 128) kk224 ia224 rfl
theorem i224_230 {xs : List Int32} : xtI (xTa xs) 224 230 = some (.iinc 3 1, 3) := x_ins (j := 129) kk224 ia224 rfl
theorem i224_233 {xs : List Int32} : xtI (xTa xs) 224 233 = some (.goto (-30), 3) := x_ins (j := 130) kk224 ia224 rfl
theorem i224_236 {xs : List Int32} : xtI (xTa xs) 224 236 = some (.aload_n 0, 1) := x_ins (j := 131) kk224 ia224 rfl
theorem i224_237 {xs : List Int32} : xtI (xTa xs) 224 237 = some (.getfield 23, 3) := x_ins (j := 132) kk224 ia224 rfl
theorem i224_240 {xs : List Int32} : xtI (xTa xs) 224 240 = some (.iload_n 1, 1) := x_ins (j := 133) kk224 ia224 rfl
theorem i224_241 {xs : List Int32} : xtI (xTa xs) 224 241 = some (.baload, 1) := x_ins (j := 134) kk224 ia224 rfl
theorem i224_242 {xs : List Int32} : xtI (xTa xs) 224 242 = some (.ifCond .eq 20, 3) := x_ins (j := 135) kk224 ia224 rfl
theorem i224_245 {xs : List Int32} : xtI (xTa xs) 224 245 = some (.aload_n 0, 1) := x_ins (j := 136) kk224 ia224 rfl
theorem i224_246 {xs : List Int32} : xtI (xTa xs) 224 246 = some (.iload_n 1, 1) := x_ins (j := 137) kk224 ia224 rfl
theorem i224_247 {xs : List Int32} : xtI (xTa xs) 224 247 = some (.iconst 3, 1) := x_ins (j := 138) kk224 ia224 rfl
theorem i224_248 {xs : List Int32} : xtI (xTa xs) 224 248 = some (.iconst 0, 1) := x_ins (j := 139) kk224 ia224 rfl
theorem i224_249 {xs : List Int32} : xtI (xTa xs) 224 249 = some (.invokevirtual 471, 3) := x_ins (j := 140) kk224 ia224 rfl
theorem i224_252 {xs : List Int32} : xtI (xTa xs) 224 252 = some (.ifCond .ne 10, 3) := x_ins (j := 141) kk224 ia224 rfl
theorem i224_255 {xs : List Int32} : xtI (xTa xs) 224 255 = some (.aload_n 0, 1) := x_ins (j := 142) kk224 ia224 rfl
theorem i224_256 {xs : List Int32} : xtI (xTa xs) 224 256 = some (.bipush 7, 2) := x_ins (j := 143) kk224 ia224 rfl
theorem i224_258 {xs : List Int32} : xtI (xTa xs) 224 258 = some (.iconst 0, 1) := x_ins (j := 144) kk224 ia224 rfl
theorem i224_259 {xs : List Int32} : xtI (xTa xs) 224 259 = some (.invokevirtual 462, 3) := x_ins (j := 145) kk224 ia224 rfl
theorem i224_262 {xs : List Int32} : xtI (xTa xs) 224 262 = some (.aload_n 0, 1) := x_ins (j := 146) kk224 ia224 rfl
theorem i224_263 {xs : List Int32} : xtI (xTa xs) 224 263 = some (.getfield 455, 3) := x_ins (j := 147) kk224 ia224 rfl
theorem i224_266 {xs : List Int32} : xtI (xTa xs) 224 266 = some (.ireturn, 1) := x_ins (j := 148) kk224 ia224 rfl
