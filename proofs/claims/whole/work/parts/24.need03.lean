theorem kk154 : xK0.getD 154 [] = k154 := rfl
set_option maxRecDepth 100000 in
theorem ia154 : (k154.all fun e => decide (k154.lookup e.1 = some e.2)) = true := by decide +kernel
theorem i154_0 {xs : List Int32} : xtI (xTa xs) 154 0 = some (.aload_n 0, 1) := x_ins (j := 0) kk154 ia154 rfl
theorem i154_1 {xs : List Int32} : xtI (xTa xs) 154 1 = some (.iload_n 1, 1) := x_ins (j := 1) kk154 ia154 rfl
theorem i154_2 {xs : List Int32} : xtI (xTa xs) 154 2 = some (.iconst 1, 1) := x_ins (j := 2) kk154 ia154 rfl
theorem i154_3 {xs : List Int32} : xtI (xTa xs) 154 3 = some (.invokevirtual 174, 3) := x_ins (j := 3) kk154 ia154 rfl
theorem i154_6 {xs : List Int32} : xtI (xTa xs) 154 6 = some (.ifCond .eq 15, 3) := x_ins (j := 4) kk154 ia154 rfl
theorem i154_9 {xs : List Int32} : xtI (xTa xs) 154 9 = some (.aload_n 0, 1) := x_ins (j := 5) kk154 ia154 rfl
theorem i154_10 {xs : List Int32} : xtI (xTa xs) 154 10 = some (.iconst 0, 1) := x_ins (j := 6) kk154 ia154 rfl
theorem i154_11 {xs : List Int32} : xtI (xTa xs) 154 11 = some (.invokevirtual 178, 3) := x_ins (j := 7) kk154 ia154 rfl
theorem i154_14 {xs : List Int32} : xtI (xTa xs) 154 14 = some (.ifCond .eq 7, 3) := x_ins (j := 8) kk154 ia154 rfl
theorem i154_17 {xs : List Int32} : xtI (xTa xs) 154 17 = some (.iconst 1, 1) := x_ins (j := 9) kk154 ia154 rfl
theorem i154_18 {xs : List Int32} : xtI (xTa xs) 154 18 = some (.goto 4, 3) := x_ins (j := 10) kk154 ia154 rfl
theorem i154_21 {xs : List Int32} : xtI (xTa xs) 154 21 = some (.iconst 0, 1) := x_ins (j := 11) kk154 ia154 rfl
theorem i154_22 {xs : List Int32} : xtI (xTa xs) 154 22 = some (.istore_n 3, 1) := x_ins (j := 12) kk154 ia154 rfl
theorem i154_23 {xs : List Int32} : xtI (xTa xs) 154 23 = some (.iconst 0, 1) := x_ins (j := 13) kk154 ia154 rfl
theorem i154_24 {xs : List Int32} : xtI (xTa xs) 154 24 = some (.istore 4, 2) := x_ins (j := 14) kk154 ia154 rfl
theorem i154_26 {xs : List Int32} : xtI (xTa xs) 154 26 = some (.iload 4, 2) := x_ins (j := 15) kk154 ia154 rfl
theorem i154_28 {xs : List Int32} : xtI (xTa xs) 154 28 = some (.aload_n 0, 1) := x_ins (j := 16) kk154 ia154 rfl
theorem i154_29 {xs : List Int32} : xtI (xTa xs) 154 29 = some (.getfield 158, 3) := x_ins (j := 17) kk154 ia154 rfl
theorem i154_32 {xs : List Int32} : xtI (xTa xs) 154 32 = some (.if_icmp .ge 63, 3) := x_ins (j := 18) kk154 ia154 rfl
theorem i154_35 {xs : List Int32} : xtI (xTa xs) 154 35 = some (.iload_n 3, 1) := x_ins (j := 19) kk154 ia154 rfl
theorem i154_36 {xs : List Int32} : xtI (xTa xs) 154 36 = some (.ifCond .eq 59, 3) := x_ins (j := 20) kk154 ia154 rfl
theorem i154_39 {xs : List Int32} : xtI (xTa xs) 154 39 = some (.aload_n 0, 1) := x_ins (j := 21) kk154 ia154 rfl
theorem i154_40 {xs : List Int32} : xtI (xTa xs) 154 40 = some (.getfield 13, 3) := x_ins (j := 22) kk154 ia154 rfl
theorem i154_43 {xs : List Int32} : xtI (xTa xs) 154 43 = some (.iload 4, 2) := x_ins (j := 23) kk154 ia154 rfl
theorem i154_45 {xs : List Int32} : xtI (xTa xs) 154 45 = some (.baload, 1) := x_ins (j := 24) kk154 ia154 rfl
theorem i154_46 {xs : List Int32} : xtI (xTa xs) 154 46 = some (.ifCond .ne 37, 3) := x_ins (j := 25) kk154 ia154 rfl
theorem i154_49 {xs : List Int32} : xtI (xTa xs) 154 49 = some (.aload_n 0, 1) := x_ins (j := 26) kk154 ia154 rfl
theorem i154_50 {xs : List Int32} : xtI (xTa xs) 154 50 = some (.getfield 17, 3) := x_ins (j := 27) kk154 ia154 rfl
theorem i154_53 {xs : List Int32} : xtI (xTa xs) 154 53 = some (.iload 4, 2) := x_ins (j := 28) kk154 ia154 rfl
theorem i154_55 {xs : List Int32} : xtI (xTa xs) 154 55 = some (.iaload, 1) := x_ins (j := 29) kk154 ia154 rfl
theorem i154_56 {xs : List Int32} : xtI (xTa xs) 154 56 = some (.iload_n 1, 1) := x_ins (j := 30) kk154 ia154 rfl
theorem i154_57 {xs : List Int32} : xtI (xTa xs) 154 57 = some (.if_icmp .ne 26, 3) := x_ins (j := 31) kk154 ia154 rfl
theorem i154_60 {xs : List Int32} : xtI (xTa xs) 154 60 = some (.aload_n 0, 1) := x_ins (j := 32) kk154 ia154 rfl
theorem i154_61 {xs : List Int32} : xtI (xTa xs) 154 61 = some (.aload_n 0, 1) := x_ins (j := 33) kk154 ia154 rfl
theorem i154_62 {xs : List Int32} : xtI (xTa xs) 154 62 = some (.getfield 26, 3) := x_ins (j := 34) kk154 ia154 rfl
theorem i154_65 {xs : List Int32} : xtI (xTa xs) 154 65 = some (.bipush 10, 2) := x_ins (j := 35) kk154 ia154 rfl
theorem i154_67 {xs : List Int32} : xtI (xTa xs) 154 67 = some (.iload 4, 2) := x_ins (j := 36) kk154 ia154 rfl
theorem i154_69 {xs : List Int32} : xtI (xTa xs) 154 69 = some (.imul, 1) := x_ins (j := 37) kk154 ia154 rfl
theorem i154_70 {xs : List Int32} : xtI (xTa xs) 154 70 = some (.aload_n 0, 1) := x_ins (j := 38) kk154 ia154 rfl
theorem i154_71 {xs : List Int32} : xtI (xTa xs) 154 71 = some (.getfield 29, 3) := x_ins (j := 39) kk154 ia154 rfl
theorem i154_74 {xs : List Int32} : xtI (xTa xs) 154 74 = some (.iload 4, 2) := x_ins (j := 40) kk154 ia154 rfl
theorem i154_76 {xs : List Int32} : xtI (xTa xs) 154 76 = some (.iaload, 1) := x_ins (j := 41) kk154 ia154 rfl
theorem i154_77 {xs : List Int32} : xtI (xTa xs) 154 77 = some (.invokevirtual 182, 3) := x_ins (j := 42) kk154 ia154 rfl
theorem i154_80 {xs : List Int32} : xtI (xTa xs) 154 80 = some (.ifCond .ne 7, 3) := x_ins (j := 43) kk154 ia154 rfl
theorem i154_83 {xs : List Int32} : xtI (xTa xs) 154 83 = some (.iconst 1, 1) := x_ins (j := 44) kk154 ia154 rfl
theorem i154_84 {xs : List Int32} : xtI (xTa xs) 154 84 = some (.goto 4, 3) := x_ins (j := 45) kk154 ia154 rfl
theorem i154_87 {xs : List Int32} : xtI (xTa xs) 154 87 = some (.iconst 0, 1) := x_ins (j := 46) kk154 ia154 rfl
theorem i154_88 {xs : List Int32} : xtI (xTa xs) 154 88 = some (.istore_n 3, 1) := x_ins (j := 47) kk154 ia154 rfl
theorem i154_89 {xs : List Int32} : xtI (xTa xs) 154 89 = some (.iinc 4 1, 3) := x_ins (j := 48) kk154 ia154 rfl
theorem i154_92 {xs : List Int32} : xtI (xTa xs) 154 92 = some (.goto (-66), 3) := x_ins (j := 49) kk154 ia154 rfl
theorem i154_95 {xs : List Int32} : xtI (xTa xs) 154 95 = some (.iload_n 3, 1) := x_ins (j := 50) kk154 ia154 rfl
theorem i154_96 {xs : List Int32} : xtI (xTa xs) 154 96 = some (.ifCond .ne 7, 3) := x_ins (j := 51) kk154 ia154 rfl
theorem i154_99 {xs : List Int32} : xtI (xTa xs) 154 99 = some (.iconst (-1), 1) := x_ins (j := 52) kk154 ia154 rfl
theorem i154_100 {xs : List Int32} : xtI (xTa xs) 154 100 = some (.goto 25, 3) := x_ins (j := 53) kk154 ia154 rfl
theorem i154_103 {xs : List Int32} : xtI (xTa xs) 154 103 = some (.aload_n 0, 1) := x_ins (j := 54) kk154 ia154 rfl
theorem i154_104 {xs : List Int32} : xtI (xTa xs) 154 104 = some (.getfield 158, 3) := x_ins (j := 55) kk154 ia154 rfl
theorem i154_107 {xs : List Int32} : xtI (xTa xs) 154 107 = some (.bipush 40, 2) := x_ins (j := 56) kk154 ia154 rfl
theorem i154_109 {xs : List Int32} : xtI (xTa xs) 154 109 = some (.if_icmp .ne 8, 3) := x_ins (j := 57) kk154 ia154 rfl
theorem i154_112 {xs : List Int32} : xtI (xTa xs) 154 112 = some (.bipush (-3), 2) := x_ins (j := 58) kk154 ia154 rfl
theorem i154_114 {xs : List Int32} : xtI (xTa xs) 154 114 = some (.goto 11, 3) := x_ins (j := 59) kk154 ia154 rfl
theorem i154_117 {xs : List Int32} : xtI (xTa xs) 154 117 = some (.aload_n 0, 1) := x_ins (j := 60) kk154 ia154 rfl
theorem i154_118 {xs : List Int32} : xtI (xTa xs) 154 118 = some (.iconst 0, 1) := x_ins (j := 61) kk154 ia154 rfl
theorem i154_119 {xs : List Int32} : xtI (xTa xs) 154 119 = some (.iload_n 1, 1) := x_ins (j := 62) kk154 ia154 rfl
theorem i154_120 {xs : List Int32} : xtI (xTa xs) 154 120 = some (.iconst (-1), 1) := x_ins (j := 63) kk154 ia154 rfl
theorem i154_121 {xs : List Int32} : xtI (xTa xs) 154 121 = some (.iload_n 2, 1) := x_ins (j := 64) kk154 ia154 rfl
theorem i154_122 {xs : List Int32} : xtI (xTa xs) 154 122 = some (.invokevirtual 186, 3) := x_ins (j := 65) kk154 ia154 rfl
theorem i154_125 {xs : List Int32} : xtI (xTa xs) 154 125 = some (.istore 4, 2) := x_ins (j := 66) kk154 ia154 rfl
theorem i154_127 {xs : List Int32} : xtI (xTa xs) 154 127 = some (.aload_n 0, 1) := x_ins (j := 67) kk154 ia154 rfl
theorem i154_128 {xs : List Int32} : xtI (xTa xs) 154 128 = some (.iconst 0, 1) := x_ins (j := 68) kk154 ia154 rfl
theorem i154_129 {xs : List Int32} : xtI (xTa xs) 154 129 = some (.putfield 146, 3) := x_ins (j := 69) kk154 ia154 rfl
theorem i154_132 {xs : List Int32} : xtI (xTa xs) 154 132 = some (.iload 4, 2) := x_ins (j := 70) kk154 ia154 rfl
theorem i154_134 {xs : List Int32} : xtI (xTa xs) 154 134 = some (.ireturn, 1) := x_ins (j := 71) kk154 ia154 rfl
theorem kk155 : xK0.getD 155 [] = k155 := rfl
set_option maxRecDepth 100000 in
theorem ia155 : (k155.all fun e => decide (k155.lookup e.1 = some e.2)) = true := by decide +kernel
theorem i155_0 {xs : List Int32} : xtI (xTa xs) 155 0 = some (.aload_n 0, 1) := x_ins (j := 0) kk155 ia155 rfl
theorem i155_1 {xs : List Int32} : xtI (xTa xs) 155 1 = some (.iload_n 1, 1) := x_ins (j := 1) kk155 ia155 rfl
theorem i155_2 {xs : List Int32} : xtI (xTa xs) 155 2 = some (.iconst 0, 1) := x_ins (j := 2) kk155 ia155 rfl
theorem i155_3 {xs : List Int32} : xtI (xTa xs) 155 3 = some (.invokevirtual 174, 3) := x_ins (j := 3) kk155 ia155 rfl
theorem i155_6 {xs : List Int32} : xtI (xTa xs) 155 6 = some (.ifCond .eq 15, 3) := x_ins (j := 4) kk155 ia155 rfl
theorem i155_9 {xs : List Int32} : xtI (xTa xs) 155 9 = some (.aload_n 0, 1) := x_ins (j := 5) kk155 ia155 rfl
theorem i155_10 {xs : List Int32} : xtI (xTa xs) 155 10 = some (.iconst 0, 1) := x_ins (j := 6) kk155 ia155 rfl
theorem i155_11 {xs : List Int32} : xtI (xTa xs) 155 11 = some (.invokevirtual 178, 3) := x_ins (j := 7) kk155 ia155 rfl
theorem i155_14 {xs : List Int32} : xtI (xTa xs) 155 14 = some (.ifCond .eq 7, 3) := x_ins (j := 8) kk155 ia155 rfl
theorem i155_17 {xs : List Int32} : xtI (xTa xs) 155 17 = some (.iconst 1, 1) := x_ins (j := 9) kk155 ia155 rfl
theorem i155_18 {xs : List Int32} : xtI (xTa xs) 155 18 = some (.goto 4, 3) := x_ins (j := 10) kk155 ia155 rfl
theorem i155_21 {xs : List Int32} : xtI (xTa xs) 155 21 = some (.iconst 0, 1) := x_ins (j := 11) kk155 ia155 rfl
theorem i155_22 {xs : List Int32} : xtI (xTa xs) 155 22 = some (.istore_n 2, 1) := x_ins (j := 12) kk155 ia155 rfl
theorem i155_23 {xs : List Int32} : xtI (xTa xs) 155 23 = some (.iconst 0, 1) := x_ins (j := 13) kk155 ia155 rfl
theorem i155_24 {xs : List Int32} : xtI (xTa xs) 155 24 = some (.istore_n 3, 1) := x_ins (j := 14) kk155 ia155 rfl
theorem i155_25 {xs : List Int32} : xtI (xTa xs) 155 25 = some (.iload_n 2, 1) := x_ins (j := 15) kk155 ia155 rfl
theorem i155_26 {xs : List Int32} : xtI (xTa xs) 155 26 = some (.ifCond .eq 55, 3) := x_ins (j := 16) kk155 ia155 rfl
theorem i155_29 {xs : List Int32} : xtI (xTa xs) 155 29 = some (.iload_n 3, 1) := x_ins (j := 17) kk155 ia155 rfl
theorem i155_30 {xs : List Int32} : xtI (xTa xs) 155 30 = some (.aload_n 0, 1) := x_ins (j := 18) kk155 ia155 rfl
theorem i155_31 {xs : List Int32} : xtI (xTa xs) 155 31 = some (.getfield 32, 3) := x_ins (j := 19) kk155 ia155 rfl
theorem i155_34 {xs : List Int32} : xtI (xTa xs) 155 34 = some (.iload_n 1, 1) := x_ins (j := 20) kk155 ia155 rfl
theorem i155_35 {xs : List Int32} : xtI (xTa xs) 155 35 = some (.iaload, 1) := x_ins (j := 21) kk155 ia155 rfl
theorem i155_36 {xs : List Int32} : xtI (xTa xs) 155 36 = some (.if_icmp .ge 45, 3) := x_ins (j := 22) kk155 ia155 rfl
theorem i155_39 {xs : List Int32} : xtI (xTa xs) 155 39 = some (.iconst 4, 1) := x_ins (j := 23) kk155 ia155 rfl
theorem i155_40 {xs : List Int32} : xtI (xTa xs) 155 40 = some (.iload_n 1, 1) := x_ins (j := 24) kk155 ia155 rfl
theorem i155_41 {xs : List Int32} : xtI (xTa xs) 155 41 = some (.imul, 1) := x_ins (j := 25) kk155 ia155 rfl
theorem i155_42 {xs : List Int32} : xtI (xTa xs) 155 42 = some (.iload_n 3, 1) := x_ins (j := 26) kk155 ia155 rfl
theorem i155_43 {xs : List Int32} : xtI (xTa xs) 155 43 = some (.iadd, 1) := x_ins (j := 27) kk155 ia155 rfl
theorem i155_44 {xs : List Int32} : xtI (xTa xs) 155 44 = some (.istore 4, 2) := x_ins (j := 28) kk155 ia155 rfl
theorem i155_46 {xs : List Int32} : xtI (xTa xs) 155 46 = some (.aload_n 0, 1) := x_ins (j := 29) kk155 ia155 rfl
theorem i155_47 {xs : List Int32} : xtI (xTa xs) 155 47 = some (.aload_n 0, 1) := x_ins (j := 30) kk155 ia155 rfl
theorem i155_48 {xs : List Int32} : xtI (xTa xs) 155 48 = some (.getfield 35, 3) := x_ins (j := 31) kk155 ia155 rfl
theorem i155_51 {xs : List Int32} : xtI (xTa xs) 155 51 = some (.bipush 10, 2) := x_ins (j := 32) kk155 ia155 rfl
theorem i155_53 {xs : List Int32} : xtI (xTa xs) 155 53 = some (.iload 4, 2) := x_ins (j := 33) kk155 ia155 rfl
theorem i155_55 {xs : List Int32} : xtI (xTa xs) 155 55 = some (.imul, 1) := x_ins (j := 34) kk155 ia155 rfl
theorem i155_56 {xs : List Int32} : xtI (xTa xs) 155 56 = some (.aload_n 0, 1) := x_ins (j := 35) kk155 ia155 rfl
theorem i155_57 {xs : List Int32} : xtI (xTa xs) 155 57 = some (.getfield 38, 3) := x_ins (j := 36) kk155 ia155 rfl
theorem i155_60 {xs : List Int32} : xtI (xTa xs) 155 60 = some (.iload 4, 2) := x_ins (j := 37) kk155 ia155 rfl
theorem i155_62 {xs : List Int32} : xtI (xTa xs) 155 62 = some (.iaload, 1) := x_ins (j := 38) kk155 ia155 rfl
theorem i155_63 {xs : List Int32} : xtI (xTa xs) 155 63 = some (.invokevirtual 182, 3) := x_ins (j := 39) kk155 ia155 rfl
theorem i155_66 {xs : List Int32} : xtI (xTa xs) 155 66 = some (.ifCond .ne 7, 3) := x_ins (j := 40) kk155 ia155 rfl
theorem i155_69 {xs : List Int32} : xtI (xTa xs) 155 69 = some (.iconst 1, 1) := x_ins (j := 41) kk155 ia155 rfl
theorem i155_70 {xs : List Int32} : xtI (xTa xs) 155 70 = some (.goto 4, 3) := x_ins (j := 42) kk155 ia155 rfl
theorem i155_73 {xs : List Int32} : xtI (xTa xs) 155 73 = some (.iconst 0, 1) := x_ins (j := 43) kk155 ia155 rfl
theorem i155_74 {xs : List Int32} : xtI (xTa xs) 155 74 = some (.istore_n 2, 1) := x_ins (j := 44) kk155 ia155 rfl
theorem i155_75 {xs : List Int32} : xtI (xTa xs) 155 75 = some (.iinc 3 1, 3) := x_ins (j := 45) kk155 ia155 rfl
theorem i155_78 {xs : List Int32} : xtI (xTa xs) 155 78 = some (.goto (-53), 3) := x_ins (j := 46) kk155 ia155 rfl
theorem i155_81 {xs : List Int32} : xtI (xTa xs) 155 81 = some (.iload_n 2, 1) := x_ins (j := 47) kk155 ia155 rfl
theorem i155_82 {xs : List Int32} : xtI (xTa xs) 155 82 = some (.ifCond .eq 8, 3) := x_ins (j := 48) kk155 ia155 rfl
theorem i155_85 {xs : List Int32} : xtI (xTa xs) 155 85 = some (.bipush (-3), 2) := x_ins (j := 49) kk155 ia155 rfl
theorem i155_87 {xs : List Int32} : xtI (xTa xs) 155 87 = some (.goto 4, 3) := x_ins (j := 50) kk155 ia155 rfl
theorem i155_90 {xs : List Int32} : xtI (xTa xs) 155 90 = some (.iconst (-1), 1) := x_ins (j := 51) kk155 ia155 rfl
theorem i155_91 {xs : List Int32} : xtI (xTa xs) 155 91 = some (.istore_n 3, 1) := x_ins (j := 52) kk155 ia155 rfl
theorem i155_92 {xs : List Int32} : xtI (xTa xs) 155 92 = some (.iload_n 2, 1) := x_ins (j := 53) kk155 ia155 rfl
theorem i155_93 {xs : List Int32} : xtI (xTa xs) 155 93 = some (.ifCond .eq 91, 3) := x_ins (j := 54) kk155 ia155 rfl
theorem i155_96 {xs : List Int32} : xtI (xTa xs) 155 96 = some (.aload_n 0, 1) := x_ins (j := 55) kk155 ia155 rfl
theorem i155_97 {xs : List Int32} : xtI (xTa xs) 155 97 = some (.getfield 32, 3) := x_ins (j := 56) kk155 ia155 rfl
theorem i155_100 {xs : List Int32} : xtI (xTa xs) 155 100 = some (.iload_n 1, 1) := x_ins (j := 57) kk155 ia155 rfl
theorem i155_101 {xs : List Int32} : xtI (xTa xs) 155 101 = some (.iaload, 1) := x_ins (j := 58) kk155 ia155 rfl
theorem i155_102 {xs : List Int32} : xtI (xTa xs) 155 102 = some (.iconst 4, 1) := x_ins (j := 59) kk155 ia155 rfl
theorem i155_103 {xs : List Int32} : xtI (xTa xs) 155 103 = some (.if_icmp .ge 81, 3) := x_ins (j := 60) kk155 ia155 rfl
theorem i155_106 {xs : List Int32} : xtI (xTa xs) 155 106 = some (.iconst 4, 1) := x_ins (j := 61) kk155 ia155 rfl
theorem i155_107 {xs : List Int32} : xtI (xTa xs) 155 107 = some (.iload_n 1, 1) := x_ins (j := 62) kk155 ia155 rfl
theorem i155_108 {xs : List Int32} : xtI (xTa xs) 155 108 = some (.imul, 1) := x_ins (j := 63) kk155 ia155 rfl
theorem i155_109 {xs : List Int32} : xtI (xTa xs) 155 109 = some (.aload_n 0, 1) := x_ins (j := 64) kk155 ia155 rfl
theorem i155_110 {xs : List Int32} : xtI (xTa xs) 155 110 = some (.getfield 32, 3) := x_ins (j := 65) kk155 ia155 rfl
theorem i155_113 {xs : List Int32} : xtI (xTa xs) 155 113 = some (.iload_n 1, 1) := x_ins (j := 66) kk155 ia155 rfl
theorem i155_114 {xs : List Int32} : xtI (xTa xs) 155 114 = some (.iaload, 1) := x_ins (j := 67) kk155 ia155 rfl
theorem i155_115 {xs : List Int32} : xtI (xTa xs) 155 115 = some (.iadd, 1) := x_ins (j := 68) kk155 ia155 rfl
theorem i155_116 {xs : List Int32} : xtI (xTa xs) 155 116 = some (.istore 4, 2) := x_ins (j := 69) kk155 ia155 rfl
theorem i155_118 {xs : List Int32} : xtI (xTa xs) 155 118 = some (.aload_n 0, 1) := x_ins (j := 70) kk155 ia155 rfl
theorem i155_119 {xs : List Int32} : xtI (xTa xs) 155 119 = some (.getfield 38, 3) := x_ins (j := 71) kk155 ia155 rfl
theorem i155_122 {xs : List Int32} : xtI (xTa xs) 155 122 = some (.iload 4, 2) := x_ins (j := 72) kk155 ia155 rfl
theorem i155_124 {xs : List Int32} : xtI (xTa xs) 155 124 = some (.aload_n 0, 1) := x_ins (j := 73) kk155 ia155 rfl
theorem i155_125 {xs : List Int32} : xtI (xTa xs) 155 125 = some (.getfield 146, 3) := x_ins (j := 74) kk155 ia155 rfl
theorem i155_128 {xs : List Int32} : xtI (xTa xs) 155 128 = some (.iastore, 1) := x_ins (j := 75) kk155 ia155 rfl
theorem i155_129 {xs : List Int32} : xtI (xTa xs) 155 129 = some (.iconst 0, 1) := x_ins (j := 76) kk155 ia155 rfl
theorem i155_130 {xs : List Int32} : xtI (xTa xs) 155 130 = some (.istore 5, 2) := x_ins (j := 77) kk155 ia155 rfl
theorem i155_132 {xs : List Int32} : xtI (xTa xs) 155 132 = some (.iload 5, 2) := x_ins (j := 78) kk155 ia155 rfl
theorem i155_134 {xs : List Int32} : xtI (xTa xs) 155 134 = some (.aload_n 0, 1) := x_ins (j := 79) kk155 ia155 rfl
theorem i155_135 {xs : List Int32} : xtI (xTa xs) 155 135 = some (.getfield 146, 3) := x_ins (j := 80) kk155 ia155 rfl
theorem i155_138 {xs : List Int32} : xtI (xTa xs) 155 138 = some (.if_icmp .ge 29, 3) := x_ins (j := 81) kk155 ia155 rfl
theorem i155_141 {xs : List Int32} : xtI (xTa xs) 155 141 = some (.aload_n 0, 1) := x_ins (j := 82) kk155 ia155 rfl
theorem i155_142 {xs : List Int32} : xtI (xTa xs) 155 142 = some (.getfield 35, 3) := x_ins (j := 83) kk155 ia155 rfl
theorem i155_145 {xs : List Int32} : xtI (xTa xs) 155 145 = some (.bipush 10, 2) := x_ins (j := 84) kk155 ia155 rfl
theorem i155_147 {xs : List Int32} : xtI (xTa xs) 155 147 = some (.iload 4, 2) := x_ins (j := 85) kk155 ia155 rfl
theorem i155_149 {xs : List Int32} : xtI (xTa xs) 155 149 = some (.imul, 1) := x_ins (j := 86) kk155 ia155 rfl
theorem i155_150 {xs : List Int32} : xtI (xTa xs) 155 150 = some (.iload 5, 2) := x_ins (j := 87) kk155 ia155 rfl
theorem i155_152 {xs : List Int32} : xtI (xTa xs) 155 152 = some (.iadd, 1) := x_ins (j := 88) kk155 ia155 rfl
theorem i155_153 {xs : List Int32} : xtI (xTa xs) 155 153 = some (.aload_n 0, 1) := x_ins (j := 89) kk155 ia155 rfl
theorem i155_154 {xs : List Int32} : xtI (xTa xs) 155 154 = some (.getfield 9, 3) := x_ins (j := 90) kk155 ia155 rfl
theorem i155_157 {xs : List Int32} : xtI (xTa xs) 155 157 = some (.iload 5, 2) := x_ins (j := 91) kk155 ia155 rfl
theorem i155_159 {xs : List Int32} : xtI (xTa xs) 155 159 = some (.iaload, 1) := x_ins (j := 92) kk155 ia155 rfl
theorem i155_160 {xs : List Int32} : xtI (xTa xs) 155 160 = some (.iastore, 1) := x_ins (j := 93) kk155 ia155 rfl
theorem i155_161 {xs : List Int32} : xtI (xTa xs) 155 161 = some (.iinc 5 1, 3) := x_ins (j := 94) kk155 ia155 rfl
theorem i155_164 {xs : List Int32} : xtI (xTa xs) 155 164 = some (.goto (-32), 3) := x_ins (j := 95) kk155 ia155 rfl
theorem i155_167 {xs : List Int32} : xtI (xTa xs) 155 167 = some (.aload_n 0, 1) := x_ins (j := 96) kk155 ia155 rfl
theorem i155_168 {xs : List Int32} : xtI (xTa xs) 155 168 = some (.getfield 32, 3) := x_ins (j := 97) kk155 ia155 rfl
theorem i155_171 {xs : List Int32} : xtI (xTa xs) 155 171 = some (.iload_n 1, 1) := x_ins (j := 98) kk155 ia155 rfl
theorem i155_172 {xs : List Int32} : xtI (xTa xs) 155 172 = some (.dup2, 1) := x_ins (j := 99) kk155 ia155 rfl
theorem i155_173 {xs : List Int32} : xtI (xTa xs) 155 173 = some (.iaload, 1) := x_ins (j := 100) kk155 ia155 rfl
theorem i155_174 {xs : List Int32} : xtI (xTa xs) 155 174 = some (.iconst 1, 1) := x_ins (j := 101) kk155 ia155 rfl
theorem i155_175 {xs : List Int32} : xtI (xTa xs) 155 175 = some (.iadd, 1) := x_ins (j := 102) kk155 ia155 rfl
theorem i155_176 {xs : List Int32} : xtI (xTa xs) 155 176 = some (.iastore, 1) := x_ins (j := 103) kk155 ia155 rfl
theorem i155_177 {xs : List Int32} : xtI (xTa xs) 155 177 = some (.aload_n 0, 1) := x_ins (j := 104) kk155 ia155 rfl
theorem i155_178 {xs : List Int32} : xtI (xTa xs) 155 178 = some (.getfield 32, 3) := x_ins (j := 105) kk155 ia155 rfl
theorem i155_181 {xs : List Int32} : xtI (xTa xs) 155 181 = some (.iload_n 1, 1) := x_ins (j := 106) kk155 ia155 rfl
theorem i155_182 {xs : List Int32} : xtI (xTa xs) 155 182 = some (.iaload, 1) := x_ins (j := 107) kk155 ia155 rfl
theorem i155_183 {xs : List Int32} : xtI (xTa xs) 155 183 = some (.istore_n 3, 1) := x_ins (j := 108) kk155 ia155 rfl
theorem i155_184 {xs : List Int32} : xtI (xTa xs) 155 184 = some (.aload_n 0, 1) := x_ins (j := 109) kk155 ia155 rfl
theorem i155_185 {xs : List Int32} : xtI (xTa xs) 155 185 = some (.iconst 0, 1) := x_ins (j := 110) kk155 ia155 rfl
theorem i155_186 {xs : List Int32} : xtI (xTa xs) 155 186 = some (.putfield 146, 3) := x_ins (j := 111) kk155 ia155 rfl
theorem i155_189 {xs : List Int32} : xtI (xTa xs) 155 189 = some (.iload_n 3, 1) := x_ins (j := 112) kk155 ia155 rfl
theorem i155_190 {xs : List Int32} : xtI (xTa xs) 155 190 = some (.ireturn, 1) := x_ins (j := 113) kk155 ia155 rfl
theorem kk156 : xK0.getD 156 [] = k156 := rfl
set_option maxRecDepth 100000 in
theorem ia156 : (k156.all fun e => decide (k156.lookup e.1 = some e.2)) = true := by decide +kernel
theorem i156_0 {xs : List Int32} : xtI (xTa xs) 156 0 = some (.aload_n 0, 1) := x_ins (j := 0) kk156 ia156 rfl
theorem i156_1 {xs : List Int32} : xtI (xTa xs) 156 1 = some (.getfield 13, 3) := x_ins (j := 1) kk156 ia156 rfl
theorem i156_4 {xs : List Int32} : xtI (xTa xs) 156 4 = some (.iload_n 1, 1) := x_ins (j := 2) kk156 ia156 rfl
theorem i156_5 {xs : List Int32} : xtI (xTa xs) 156 5 = some (.baload, 1) := x_ins (j := 3) kk156 ia156 rfl
theorem i156_6 {xs : List Int32} : xtI (xTa xs) 156 6 = some (.ifCond .eq 5, 3) := x_ins (j := 4) kk156 ia156 rfl
theorem i156_9 {xs : List Int32} : xtI (xTa xs) 156 9 = some (.iconst (-1), 1) := x_ins (j := 5) kk156 ia156 rfl
theorem i156_10 {xs : List Int32} : xtI (xTa xs) 156 10 = some (.ireturn, 1) := x_ins (j := 6) kk156 ia156 rfl
theorem i156_11 {xs : List Int32} : xtI (xTa xs) 156 11 = some (.aload_n 0, 1) := x_ins (j := 7) kk156 ia156 rfl
theorem i156_12 {xs : List Int32} : xtI (xTa xs) 156 12 = some (.aload_n 0, 1) := x_ins (j := 8) kk156 ia156 rfl
theorem i156_13 {xs : List Int32} : xtI (xTa xs) 156 13 = some (.getfield 20, 3) := x_ins (j := 9) kk156 ia156 rfl
theorem i156_16 {xs : List Int32} : xtI (xTa xs) 156 16 = some (.aload_n 0, 1) := x_ins (j := 10) kk156 ia156 rfl
theorem i156_17 {xs : List Int32} : xtI (xTa xs) 156 17 = some (.getfield 17, 3) := x_ins (j := 11) kk156 ia156 rfl
theorem i156_20 {xs : List Int32} : xtI (xTa xs) 156 20 = some (.iload_n 1, 1) := x_ins (j := 12) kk156 ia156 rfl
theorem i156_21 {xs : List Int32} : xtI (xTa xs) 156 21 = some (.iaload, 1) := x_ins (j := 13) kk156 ia156 rfl
theorem i156_22 {xs : List Int32} : xtI (xTa xs) 156 22 = some (.iaload, 1) := x_ins (j := 14) kk156 ia156 rfl
theorem i156_23 {xs : List Int32} : xtI (xTa xs) 156 23 = some (.aload_n 0, 1) := x_ins (j := 15) kk156 ia156 rfl
theorem i156_24 {xs : List Int32} : xtI (xTa xs) 156 24 = some (.getfield 26, 3) := x_ins (j := 16) kk156 ia156 rfl
theorem i156_27 {xs : List Int32} : xtI (xTa xs) 156 27 = some (.bipush 10, 2) := x_ins (j := 17) kk156 ia156 rfl
theorem i156_29 {xs : List Int32} : xtI (xTa xs) 156 29 = some (.iload_n 1, 1) := x_ins (j := 18) kk156 ia156 rfl
theorem i156_30 {xs : List Int32} : xtI (xTa xs) 156 30 = some (.imul, 1) := x_ins (j := 19) kk156 ia156 rfl
theorem i156_31 {xs : List Int32} : xtI (xTa xs) 156 31 = some (.aload_n 0, 1) := x_ins (j := 20) kk156 ia156 rfl
theorem i156_32 {xs : List Int32} : xtI (xTa xs) 156 32 = some (.getfield 29, 3) := x_ins (j := 21) kk156 ia156 rfl
theorem i156_35 {xs : List Int32} : xtI (xTa xs) 156 35 = some (.iload_n 1, 1) := x_ins (j := 22) kk156 ia156 rfl
theorem i156_36 {xs : List Int32} : xtI (xTa xs) 156 36 = some (.iaload, 1) := x_ins (j := 23) kk156 ia156 rfl
theorem i156_37 {xs : List Int32} : xtI (xTa xs) 156 37 = some (.invokevirtual 190, 3) := x_ins (j := 24) kk156 ia156 rfl
theorem i156_40 {xs : List Int32} : xtI (xTa xs) 156 40 = some (.ireturn, 1) := x_ins (j := 25) kk156 ia156 rfl
theorem kk157 : xK0.getD 157 [] = k157 := rfl
set_option maxRecDepth 100000 in
theorem ia157 : (k157.all fun e => decide (k157.lookup e.1 = some e.2)) = true := by decide +kernel
theorem i157_0 {xs : List Int32} : xtI (xTa xs) 157 0 = some (.iload_n 1, 1) := x_ins (j := 0) kk157 ia157 rfl
theorem i157_1 {xs : List Int32} : xtI (xTa xs) 157 1 = some (.istore 5, 2) := x_ins (j := 1) kk157 ia157 rfl
theorem i157_3 {xs : List Int32} : xtI (xTa xs) 157 3 = some (.iload 5, 2) := x_ins (j := 2) kk157 ia157 rfl
theorem i157_5 {xs : List Int32} : xtI (xTa xs) 157 5 = some (.iconst (-1), 1) := x_ins (j := 3) kk157 ia157 rfl
theorem i157_6 {xs : List Int32} : xtI (xTa xs) 157 6 = some (.if_icmp .eq 71, 3) := x_ins (j := 4) kk157 ia157 rfl
theorem i157_9 {xs : List Int32} : xtI (xTa xs) 157 9 = some (.iconst 0, 1) := x_ins (j := 5) kk157 ia157 rfl
theorem i157_10 {xs : List Int32} : xtI (xTa xs) 157 10 = some (.istore 6, 2) := x_ins (j := 6) kk157 ia157 rfl
theorem i157_12 {xs : List Int32} : xtI (xTa xs) 157 12 = some (.iload 6, 2) := x_ins (j := 7) kk157 ia157 rfl
theorem i157_14 {xs : List Int32} : xtI (xTa xs) 157 14 = some (.aload_n 0, 1) := x_ins (j := 8) kk157 ia157 rfl
theorem i157_15 {xs : List Int32} : xtI (xTa xs) 157 15 = some (.getfield 158, 3) := x_ins (j := 9) kk157 ia157 rfl
theorem i157_18 {xs : List Int32} : xtI (xTa xs) 157 18 = some (.if_icmp .ge 47, 3) := x_ins (j := 10) kk157 ia157 rfl
theorem i157_21 {xs : List Int32} : xtI (xTa xs) 157 21 = some (.aload_n 0, 1) := x_ins (j := 11) kk157 ia157 rfl
theorem i157_22 {xs : List Int32} : xtI (xTa xs) 157 22 = some (.getfield 13, 3) := x_ins (j := 12) kk157 ia157 rfl
theorem i157_25 {xs : List Int32} : xtI (xTa xs) 157 25 = some (.iload 6, 2) := x_ins (j := 13) kk157 ia157 rfl
theorem i157_27 {xs : List Int32} : xtI (xTa xs) 157 27 = some (.baload, 1) := x_ins (j := 14) kk157 ia157 rfl
theorem i157_28 {xs : List Int32} : xtI (xTa xs) 157 28 = some (.ifCond .ne 31, 3) := x_ins (j := 15) kk157 ia157 rfl
theorem i157_31 {xs : List Int32} : xtI (xTa xs) 157 31 = some (.aload_n 0, 1) := x_ins (j := 16) kk157 ia157 rfl
theorem i157_32 {xs : List Int32} : xtI (xTa xs) 157 32 = some (.getfield 17, 3) := x_ins (j := 17) kk157 ia157 rfl
theorem i157_35 {xs : List Int32} : xtI (xTa xs) 157 35 = some (.iload 6, 2) := x_ins (j := 18) kk157 ia157 rfl
theorem i157_37 {xs : List Int32} : xtI (xTa xs) 157 37 = some (.iaload, 1) := x_ins (j := 19) kk157 ia157 rfl
theorem i157_38 {xs : List Int32} : xtI (xTa xs) 157 38 = some (.iload 5, 2) := x_ins (j := 20) kk157 ia157 rfl
theorem i157_40 {xs : List Int32} : xtI (xTa xs) 157 40 = some (.if_icmp .ne 19, 3) := x_ins (j := 21) kk157 ia157 rfl
theorem i157_43 {xs : List Int32} : xtI (xTa xs) 157 43 = some (.aload_n 0, 1) := x_ins (j := 22) kk157 ia157 rfl
theorem i157_44 {xs : List Int32} : xtI (xTa xs) 157 44 = some (.iload 6, 2) := x_ins (j := 23) kk157 ia157 rfl
theorem i157_46 {xs : List Int32} : xtI (xTa xs) 157 46 = some (.aload_n 2, 1) := x_ins (j := 24) kk157 ia157 rfl
theorem i157_47 {xs : List Int32} : xtI (xTa xs) 157 47 = some (.iload_n 3, 1) := x_ins (j := 25) kk157 ia157 rfl
theorem i157_48 {xs : List Int32} : xtI (xTa xs) 157 48 = some (.iload 4, 2) := x_ins (j := 26) kk157 ia157 rfl
theorem i157_50 {xs : List Int32} : xtI (xTa xs) 157 50 = some (.invokevirtual 194, 3) := x_ins (j := 27) kk157 ia157 rfl
theorem i157_53 {xs : List Int32} : xtI (xTa xs) 157 53 = some (.ifCond .eq 6, 3) := x_ins (j := 28) kk157 ia157 rfl
theorem i157_56 {xs : List Int32} : xtI (xTa xs) 157 56 = some (.iload 6, 2) := x_ins (j := 29) kk157 ia157 rfl
theorem i157_58 {xs : List Int32} : xtI (xTa xs) 157 58 = some (.ireturn, 1) := x_ins (j := 30) kk157 ia157 rfl
theorem i157_59 {xs : List Int32} : xtI (xTa xs) 157 59 = some (.iinc 6 1, 3) := x_ins (j := 31) kk157 ia157 rfl
theorem i157_62 {xs : List Int32} : xtI (xTa xs) 157 62 = some (.goto (-50), 3) := x_ins (j := 32) kk157 ia157 rfl
theorem i157_65 {xs : List Int32} : xtI (xTa xs) 157 65 = some (.aload_n 0, 1) := x_ins (j := 33) kk157 ia157 rfl
theorem i157_66 {xs : List Int32} : xtI (xTa xs) 157 66 = some (.getfield 20, 3) := x_ins (j := 34) kk157 ia157 rfl
theorem i157_69 {xs : List Int32} : xtI (xTa xs) 157 69 = some (.iload 5, 2) := x_ins (j := 35) kk157 ia157 rfl
theorem i157_71 {xs : List Int32} : xtI (xTa xs) 157 71 = some (.iaload, 1) := x_ins (j := 36) kk157 ia157 rfl
theorem i157_72 {xs : List Int32} : xtI (xTa xs) 157 72 = some (.istore 5, 2) := x_ins (j := 37) kk157 ia157 rfl
theorem i157_74 {xs : List Int32} : xtI (xTa xs) 157 74 = some (.goto (-71), 3) := x_ins (j := 38) kk157 ia157 rfl
theorem i157_77 {xs : List Int32} : xtI (xTa xs) 157 77 = some (.iconst (-1), 1) := x_ins (j := 39) kk157 ia157 rfl
theorem i157_78 {xs : List Int32} : xtI (xTa xs) 157 78 = some (.ireturn, 1) := x_ins (j := 40) kk157 ia157 rfl
theorem kk158 : xK0.getD 158 [] = k158 := rfl
set_option maxRecDepth 100000 in
theorem ia158 : (k158.all fun e => decide (k158.lookup e.1 = some e.2)) = true := by decide +kernel
theorem i158_0 {xs : List Int32} : xtI (xTa xs) 158 0 = some (.aload_n 0, 1) := x_ins (j := 0) kk158 ia158 rfl
theorem i158_1 {xs : List Int32} : xtI (xTa xs) 158 1 = some (.getfield 29, 3) := x_ins (j := 1) kk158 ia158 rfl
theorem i158_4 {xs : List Int32} : xtI (xTa xs) 158 4 = some (.iload_n 1, 1) := x_ins (j := 2) kk158 ia158 rfl
theorem i158_5 {xs : List Int32} : xtI (xTa xs) 158 5 = some (.iaload, 1) := x_ins (j := 3) kk158 ia158 rfl
theorem i158_6 {xs : List Int32} : xtI (xTa xs) 158 6 = some (.iload 4, 2) := x_ins (j := 4) kk158 ia158 rfl
theorem i158_8 {xs : List Int32} : xtI (xTa xs) 158 8 = some (.if_icmp .ne 7, 3) := x_ins (j := 5) kk158 ia158 rfl
theorem i158_11 {xs : List Int32} : xtI (xTa xs) 158 11 = some (.iconst 1, 1) := x_ins (j := 6) kk158 ia158 rfl
theorem i158_12 {xs : List Int32} : xtI (xTa xs) 158 12 = some (.goto 4, 3) := x_ins (j := 7) kk158 ia158 rfl
theorem i158_15 {xs : List Int32} : xtI (xTa xs) 158 15 = some (.iconst 0, 1) := x_ins (j := 8) kk158 ia158 rfl
theorem i158_16 {xs : List Int32} : xtI (xTa xs) 158 16 = some (.istore 5, 2) := x_ins (j := 9) kk158 ia158 rfl
theorem i158_18 {xs : List Int32} : xtI (xTa xs) 158 18 = some (.iconst 0, 1) := x_ins (j := 10) kk158 ia158 rfl
theorem i158_19 {xs : List Int32} : xtI (xTa xs) 158 19 = some (.istore 6, 2) := x_ins (j := 11) kk158 ia158 rfl
theorem i158_21 {xs : List Int32} : xtI (xTa xs) 158 21 = some (.iload 6, 2) := x_ins (j := 12) kk158 ia158 rfl
theorem i158_23 {xs : List Int32} : xtI (xTa xs) 158 23 = some (.iload 4, 2) := x_ins (j := 13) kk158 ia158 rfl
theorem i158_25 {xs : List Int32} : xtI (xTa xs) 158 25 = some (.if_icmp .ge 42, 3) := x_ins (j := 14) kk158 ia158 rfl
theorem i158_28 {xs : List Int32} : xtI (xTa xs) 158 28 = some (.iload 5, 2) := x_ins (j := 15) kk158 ia158 rfl
theorem i158_30 {xs : List Int32} : xtI (xTa xs) 158 30 = some (.ifCond .eq 37, 3) := x_ins (j := 16) kk158 ia158 rfl
theorem i158_33 {xs : List Int32} : xtI (xTa xs) 158 33 = some (.aload_n 0, 1) := x_ins (j := 17) kk158 ia158 rfl
theorem i158_34 {xs : List Int32} : xtI (xTa xs) 158 34 = some (.getfield 26, 3) := x_ins (j := 18) kk158 ia158 rfl
theorem i158_37 {xs : List Int32} : xtI (xTa xs) 158 37 = some (.bipush 10, 2) := x_ins (j := 19) kk158 ia158 rfl
theorem i158_39 {xs : List Int32} : xtI (xTa xs) 158 39 = some (.iload_n 1, 1) := x_ins (j := 20) kk158 ia158 rfl
theorem i158_40 {xs : List Int32} : xtI (xTa xs) 158 40 = some (.imul, 1) := x_ins (j := 21) kk158 ia158 rfl
theorem i158_41 {xs : List Int32} : xtI (xTa xs) 158 41 = some (.iload 6, 2) := x_ins (j := 22) kk158 ia158 rfl
theorem i158_43 {xs : List Int32} : xtI (xTa xs) 158 43 = some (.iadd, 1) := x_ins (j := 23) kk158 ia158 rfl
theorem i158_44 {xs : List Int32} : xtI (xTa xs) 158 44 = some (.iaload, 1) := x_ins (j := 24) kk158 ia158 rfl
theorem i158_45 {xs : List Int32} : xtI (xTa xs) 158 45 = some (.aload_n 2, 1) := x_ins (j := 25) kk158 ia158 rfl
theorem i158_46 {xs : List Int32} : xtI (xTa xs) 158 46 = some (.iload_n 3, 1) := x_ins (j := 26) kk158 ia158 rfl
theorem i158_47 {xs : List Int32} : xtI (xTa xs) 158 47 = some (.iload 6, 2) := x_ins (j := 27) kk158 ia158 rfl
theorem i158_49 {xs : List Int32} : xtI (xTa xs) 158 49 = some (.iadd, 1) := x_ins (j := 28) kk158 ia158 rfl
theorem i158_50 {xs : List Int32} : xtI (xTa xs) 158 50 = some (.iaload, 1) := x_ins (j := 29) kk158 ia158 rfl
theorem i158_51 {xs : List Int32} : xtI (xTa xs) 158 51 = some (.if_icmp .ne 7, 3) := x_ins (j := 30) kk158 ia158 rfl
theorem i158_54 {xs : List Int32} : xtI (xTa xs) 158 54 = some (.iconst 1, 1) := x_ins (j := 31) kk158 ia158 rfl
theorem i158_55 {xs : List Int32} : xtI (xTa xs) 158 55 = some (.goto 4, 3) := x_ins (j := 32) kk158 ia158 rfl
theorem i158_58 {xs : List Int32} : xtI (xTa xs) 158 58 = some (.iconst 0, 1) := x_ins (j := 33) kk158 ia158 rfl
theorem i158_59 {xs : List Int32} : xtI (xTa xs) 158 59 = some (.istore 5, 2) := x_ins (j := 34) kk158 ia158 rfl
theorem i158_61 {xs : List Int32} : xtI (xTa xs) 158 61 = some (.iinc 6 1, 3) := x_ins (j := 35) kk158 ia158 rfl
theorem i158_64 {xs : List Int32} : xtI (xTa xs) 158 64 = some (.goto (-43), 3) := x_ins (j := 36) kk158 ia158 rfl
theorem i158_67 {xs : List Int32} : xtI (xTa xs) 158 67 = some (.iload 5, 2) := x_ins (j := 37) kk158 ia158 rfl
theorem i158_69 {xs : List Int32} : xtI (xTa xs) 158 69 = some (.ireturn, 1) := x_ins (j := 38) kk158 ia158 rfl
theorem kk159 : xK0.getD 159 [] = k159 := rfl
set_option maxRecDepth 100000 in
theorem ia159 : (k159.all fun e => decide (k159.lookup e.1 = some e.2)) = true := by decide +kernel
theorem i159_0 {xs : List Int32} : xtI (xTa xs) 159 0 = some (.iconst 0, 1) := x_ins (j := 0) kk159 ia159 rfl
theorem i159_1 {xs : List Int32} : xtI (xTa xs) 159 1 = some (.istore 4, 2) := x_ins (j := 1) kk159 ia159 rfl
theorem i159_3 {xs : List Int32} : xtI (xTa xs) 159 3 = some (.iload 4, 2) := x_ins (j := 2) kk159 ia159 rfl
theorem i159_5 {xs : List Int32} : xtI (xTa xs) 159 5 = some (.aload_n 0, 1) := x_ins (j := 3) kk159 ia159 rfl
theorem i159_6 {xs : List Int32} : xtI (xTa xs) 159 6 = some (.getfield 158, 3) := x_ins (j := 4) kk159 ia159 rfl
theorem i159_9 {xs : List Int32} : xtI (xTa xs) 159 9 = some (.if_icmp .ge 34, 3) := x_ins (j := 5) kk159 ia159 rfl
theorem i159_12 {xs : List Int32} : xtI (xTa xs) 159 12 = some (.aload_n 0, 1) := x_ins (j := 6) kk159 ia159 rfl
theorem i159_13 {xs : List Int32} : xtI (xTa xs) 159 13 = some (.getfield 13, 3) := x_ins (j := 7) kk159 ia159 rfl
theorem i159_16 {xs : List Int32} : xtI (xTa xs) 159 16 = some (.iload 4, 2) := x_ins (j := 8) kk159 ia159 rfl
theorem i159_18 {xs : List Int32} : xtI (xTa xs) 159 18 = some (.baload, 1) := x_ins (j := 9) kk159 ia159 rfl
theorem i159_19 {xs : List Int32} : xtI (xTa xs) 159 19 = some (.ifCond .eq 18, 3) := x_ins (j := 10) kk159 ia159 rfl
theorem i159_22 {xs : List Int32} : xtI (xTa xs) 159 22 = some (.aload_n 0, 1) := x_ins (j := 11) kk159 ia159 rfl
theorem i159_23 {xs : List Int32} : xtI (xTa xs) 159 23 = some (.iload 4, 2) := x_ins (j := 12) kk159 ia159 rfl
theorem i159_25 {xs : List Int32} : xtI (xTa xs) 159 25 = some (.aload_n 1, 1) := x_ins (j := 13) kk159 ia159 rfl
theorem i159_26 {xs : List Int32} : xtI (xTa xs) 159 26 = some (.iload_n 2, 1) := x_ins (j := 14) kk159 ia159 rfl
theorem i159_27 {xs : List Int32} : xtI (xTa xs) 159 27 = some (.iload_n 3, 1) := x_ins (j := 15) kk159 ia159 rfl
theorem i159_28 {xs : List Int32} : xtI (xTa xs) 159 28 = some (.invokevirtual 194, 3) := x_ins (j := 16) kk159 ia159 rfl
theorem i159_31 {xs : List Int32} : xtI (xTa xs) 159 31 = some (.ifCond .eq 6, 3) := x_ins (j := 17) kk159 ia159 rfl
theorem i159_34 {xs : List Int32} : xtI (xTa xs) 159 34 = some (.iload 4, 2) := x_ins (j := 18) kk159 ia159 rfl
theorem i159_36 {xs : List Int32} : xtI (xTa xs) 159 36 = some (.ireturn, 1) := x_ins (j := 19) kk159 ia159 rfl
theorem i159_37 {xs : List Int32} : xtI (xTa xs) 159 37 = some (.iinc 4 1, 3) := x_ins (j := 20) kk159 ia159 rfl
theorem i159_40 {xs : List Int32} : xtI (xTa xs) 159 40 = some (.goto (-37), 3) := x_ins (j := 21) kk159 ia159 rfl
theorem i159_43 {xs : List Int32} : xtI (xTa xs) 159 43 = some (.iconst (-1), 1) := x_ins (j := 22) kk159 ia159 rfl
theorem i159_44 {xs : List Int32} : xtI (xTa xs) 159 44 = some (.ireturn, 1) := x_ins (j := 23) kk159 ia159 rfl
theorem kk160 : xK0.getD 160 [] = k160 := rfl
set_option maxRecDepth 100000 in
theorem ia160 : (k160.all fun e => decide (k160.lookup e.1 = some e.2)) = true := by decide +kernel
theorem i160_0 {xs : List Int32} : xtI (xTa xs) 160 0 = some (.iload_n 1, 1) := x_ins (j := 0) kk160 ia160 rfl
theorem i160_1 {xs : List Int32} : xtI (xTa xs) 160 1 = some (.istore_n 2, 1) := x_ins (j := 1) kk160 ia160 rfl
theorem i160_2 {xs : List Int32} : xtI (xTa xs) 160 2 = some (.iload_n 2, 1) := x_ins (j := 2) kk160 ia160 rfl
theorem i160_3 {xs : List Int32} : xtI (xTa xs) 160 3 = some (.iconst (-1), 1) := x_ins (j := 3) kk160 ia160 rfl
theorem i160_4 {xs : List Int32} : xtI (xTa xs) 160 4 = some (.if_icmp .eq 22, 3) := x_ins (j := 4) kk160 ia160 rfl
theorem i160_7 {xs : List Int32} : xtI (xTa xs) 160 7 = some (.aload_n 0, 1) := x_ins (j := 5) kk160 ia160 rfl
theorem i160_8 {xs : List Int32} : xtI (xTa xs) 160 8 = some (.getfield 44, 3) := x_ins (j := 6) kk160 ia160 rfl
theorem i160_11 {xs : List Int32} : xtI (xTa xs) 160 11 = some (.iload_n 2, 1) := x_ins (j := 7) kk160 ia160 rfl
theorem i160_12 {xs : List Int32} : xtI (xTa xs) 160 12 = some (.iaload, 1) := x_ins (j := 8) kk160 ia160 rfl
theorem i160_13 {xs : List Int32} : xtI (xTa xs) 160 13 = some (.iconst (-1), 1) := x_ins (j := 9) kk160 ia160 rfl
theorem i160_14 {xs : List Int32} : xtI (xTa xs) 160 14 = some (.if_icmp .ne 12, 3) := x_ins (j := 10) kk160 ia160 rfl
theorem i160_17 {xs : List Int32} : xtI (xTa xs) 160 17 = some (.aload_n 0, 1) := x_ins (j := 11) kk160 ia160 rfl
theorem i160_18 {xs : List Int32} : xtI (xTa xs) 160 18 = some (.iload_n 2, 1) := x_ins (j := 12) kk160 ia160 rfl
theorem i160_19 {xs : List Int32} : xtI (xTa xs) 160 19 = some (.invokevirtual 198, 3) := x_ins (j := 13) kk160 ia160 rfl
theorem i160_22 {xs : List Int32} : xtI (xTa xs) 160 22 = some (.istore_n 2, 1) := x_ins (j := 14) kk160 ia160 rfl
theorem i160_23 {xs : List Int32} : xtI (xTa xs) 160 23 = some (.goto (-21), 3) := x_ins (j := 15) kk160 ia160 rfl
theorem i160_26 {xs : List Int32} : xtI (xTa xs) 160 26 = some (.iload_n 2, 1) := x_ins (j := 16) kk160 ia160 rfl
theorem i160_27 {xs : List Int32} : xtI (xTa xs) 160 27 = some (.ireturn, 1) := x_ins (j := 17) kk160 ia160 rfl
theorem kk161 : xK0.getD 161 [] = k161 := rfl
set_option maxRecDepth 100000 in
theorem ia161 : (k161.all fun e => decide (k161.lookup e.1 = some e.2)) = true := by decide +kernel
theorem i161_0 {xs : List Int32} : xtI (xTa xs) 161 0 = some (.iload_n 0, 1) := x_ins (j := 0) kk161 ia161 rfl
theorem i161_1 {xs : List Int32} : xtI (xTa xs) 161 1 = some (.invokestatic 165, 3) := x_ins (j := 1) kk161 ia161 rfl
theorem i161_4 {xs : List Int32} : xtI (xTa xs) 161 4 = some (.ifCond .ne 17, 3) := x_ins (j := 2) kk161 ia161 rfl
theorem i161_7 {xs : List Int32} : xtI (xTa xs) 161 7 = some (.iload_n 0, 1) := x_ins (j := 3) kk161 ia161 rfl
theorem i161_8 {xs : List Int32} : xtI (xTa xs) 161 8 = some (.invokestatic 168, 3) := x_ins (j := 4) kk161 ia161 rfl
theorem i161_11 {xs : List Int32} : xtI (xTa xs) 161 11 = some (.ifCond .ne 10, 3) := x_ins (j := 5) kk161 ia161 rfl
theorem i161_14 {xs : List Int32} : xtI (xTa xs) 161 14 = some (.iload_n 0, 1) := x_ins (j := 6) kk161 ia161 rfl
theorem i161_15 {xs : List Int32} : xtI (xTa xs) 161 15 = some (.invokestatic 171, 3) := x_ins (j := 7) kk161 ia161 rfl
theorem i161_18 {xs : List Int32} : xtI (xTa xs) 161 18 = some (.ifCond .eq 7, 3) := x_ins (j := 8) kk161 ia161 rfl
theorem i161_21 {xs : List Int32} : xtI (xTa xs) 161 21 = some (.iconst 1, 1) := x_ins (j := 9) kk161 ia161 rfl
theorem i161_22 {xs : List Int32} : xtI (xTa xs) 161 22 = some (.goto 4, 3) := x_ins (j := 10) kk161 ia161 rfl
theorem i161_25 {xs : List Int32} : xtI (xTa xs) 161 25 = some (.iconst 0, 1) := x_ins (j := 11) kk161 ia161 rfl
theorem i161_26 {xs : List Int32} : xtI (xTa xs) 161 26 = some (.ireturn, 1) := x_ins (j := 12) kk161 ia161 rfl
theorem kk162 : xK0.getD 162 [] = k162 := rfl
set_option maxRecDepth 100000 in
theorem ia162 : (k162.all fun e => decide (k162.lookup e.1 = some e.2)) = true := by decide +kernel
theorem i162_0 {xs : List Int32} : xtI (xTa xs) 162 0 = some (.iconst 0, 1) := x_ins (j := 0) kk162 ia162 rfl
theorem i162_1 {xs : List Int32} : xtI (xTa xs) 162 1 = some (.istore_n 3, 1) := x_ins (j := 1) kk162 ia162 rfl
theorem i162_2 {xs : List Int32} : xtI (xTa xs) 162 2 = some (.iload_n 1, 1) := x_ins (j := 2) kk162 ia162 rfl
theorem i162_3 {xs : List Int32} : xtI (xTa xs) 162 3 = some (.iload_n 3, 1) := x_ins (j := 3) kk162 ia162 rfl
theorem i162_4 {xs : List Int32} : xtI (xTa xs) 162 4 = some (.iadd, 1) := x_ins (j := 4) kk162 ia162 rfl
theorem i162_5 {xs : List Int32} : xtI (xTa xs) 162 5 = some (.iload_n 2, 1) := x_ins (j := 5) kk162 ia162 rfl
theorem i162_6 {xs : List Int32} : xtI (xTa xs) 162 6 = some (.if_icmp .ge 20, 3) := x_ins (j := 6) kk162 ia162 rfl
theorem i162_9 {xs : List Int32} : xtI (xTa xs) 162 9 = some (.aload_n 0, 1) := x_ins (j := 7) kk162 ia162 rfl
theorem i162_10 {xs : List Int32} : xtI (xTa xs) 162 10 = some (.iload_n 1, 1) := x_ins (j := 8) kk162 ia162 rfl
theorem i162_11 {xs : List Int32} : xtI (xTa xs) 162 11 = some (.iload_n 3, 1) := x_ins (j := 9) kk162 ia162 rfl
theorem i162_12 {xs : List Int32} : xtI (xTa xs) 162 12 = some (.iadd, 1) := x_ins (j := 10) kk162 ia162 rfl
theorem i162_13 {xs : List Int32} : xtI (xTa xs) 162 13 = some (.iaload, 1) := x_ins (j := 11) kk162 ia162 rfl
theorem i162_14 {xs : List Int32} : xtI (xTa xs) 162 14 = some (.invokestatic 202, 3) := x_ins (j := 12) kk162 ia162 rfl
theorem i162_17 {xs : List Int32} : xtI (xTa xs) 162 17 = some (.ifCond .eq 9, 3) := x_ins (j := 13) kk162 ia162 rfl
theorem i162_20 {xs : List Int32} : xtI (xTa xs) 162 20 = some (.iinc 3 1, 3) := x_ins (j := 14) kk162 ia162 rfl
theorem i162_23 {xs : List Int32} : xtI (xTa xs) 162 23 = some (.goto (-21), 3) := x_ins (j := 15) kk162 ia162 rfl
theorem i162_26 {xs : List Int32} : xtI (xTa xs) 162 26 = some (.iload_n 3, 1) := x_ins (j := 16) kk162 ia162 rfl
theorem i162_27 {xs : List Int32} : xtI (xTa xs) 162 27 = some (.iconst 1, 1) := x_ins (j := 17) kk162 ia162 rfl
theorem i162_28 {xs : List Int32} : xtI (xTa xs) 162 28 = some (.if_icmp .lt 18, 3) := x_ins (j := 18) kk162 ia162 rfl
theorem i162_31 {xs : List Int32} : xtI (xTa xs) 162 31 = some (.iload_n 3, 1) := x_ins (j := 19) kk162 ia162 rfl
theorem i162_32 {xs : List Int32} : xtI (xTa xs) 162 32 = some (.bipush 10, 2) := x_ins (j := 20) kk162 ia162 rfl
theorem i162_34 {xs : List Int32} : xtI (xTa xs) 162 34 = some (.if_icmp .gt 12, 3) := x_ins (j := 21) kk162 ia162 rfl
theorem i162_37 {xs : List Int32} : xtI (xTa xs) 162 37 = some (.aload_n 0, 1) := x_ins (j := 22) kk162 ia162 rfl
theorem i162_38 {xs : List Int32} : xtI (xTa xs) 162 38 = some (.iload_n 1, 1) := x_ins (j := 23) kk162 ia162 rfl
theorem i162_39 {xs : List Int32} : xtI (xTa xs) 162 39 = some (.iaload, 1) := x_ins (j := 24) kk162 ia162 rfl
theorem i162_40 {xs : List Int32} : xtI (xTa xs) 162 40 = some (.invokestatic 171, 3) := x_ins (j := 25) kk162 ia162 rfl
theorem i162_43 {xs : List Int32} : xtI (xTa xs) 162 43 = some (.ifCond .eq 7, 3) := x_ins (j := 26) kk162 ia162 rfl
theorem i162_46 {xs : List Int32} : xtI (xTa xs) 162 46 = some (.iconst 0, 1) := x_ins (j := 27) kk162 ia162 rfl
theorem i162_47 {xs : List Int32} : xtI (xTa xs) 162 47 = some (.goto 4, 3) := x_ins (j := 28) kk162 ia162 rfl
theorem i162_50 {xs : List Int32} : xtI (xTa xs) 162 50 = some (.iload_n 3, 1) := x_ins (j := 29) kk162 ia162 rfl
theorem i162_51 {xs : List Int32} : xtI (xTa xs) 162 51 = some (.ireturn, 1) := x_ins (j := 30) kk162 ia162 rfl
theorem kk163 : xK0.getD 163 [] = k163 := rfl
set_option maxRecDepth 100000 in
theorem ia163 : (k163.all fun e => decide (k163.lookup e.1 = some e.2)) = true := by decide +kernel
theorem i163_0 {xs : List Int32} : xtI (xTa xs) 163 0 = some (.aload_n 0, 1) := x_ins (j := 0) kk163 ia163 rfl
theorem i163_1 {xs : List Int32} : xtI (xTa xs) 163 1 = some (.iload_n 1, 1) := x_ins (j := 1) kk163 ia163 rfl
theorem i163_2 {xs : List Int32} : xtI (xTa xs) 163 2 = some (.iload_n 2, 1) := x_ins (j := 2) kk163 ia163 rfl
theorem i163_3 {xs : List Int32} : xtI (xTa xs) 163 3 = some (.invokestatic 205, 3) := x_ins (j := 3) kk163 ia163 rfl
theorem i163_6 {xs : List Int32} : xtI (xTa xs) 163 6 = some (.istore_n 3, 1) := x_ins (j := 4) kk163 ia163 rfl
theorem i163_7 {xs : List Int32} : xtI (xTa xs) 163 7 = some (.iload_n 3, 1) := x_ins (j := 5) kk163 ia163 rfl
theorem i163_8 {xs : List Int32} : xtI (xTa xs) 163 8 = some (.ifCond .eq 20, 3) := x_ins (j := 6) kk163 ia163 rfl
theorem i163_11 {xs : List Int32} : xtI (xTa xs) 163 11 = some (.iload_n 1, 1) := x_ins (j := 7) kk163 ia163 rfl
theorem i163_12 {xs : List Int32} : xtI (xTa xs) 163 12 = some (.iload_n 3, 1) := x_ins (j := 8) kk163 ia163 rfl
theorem i163_13 {xs : List Int32} : xtI (xTa xs) 163 13 = some (.iadd, 1) := x_ins (j := 9) kk163 ia163 rfl
theorem i163_14 {xs : List Int32} : xtI (xTa xs) 163 14 = some (.iload_n 2, 1) := x_ins (j := 10) kk163 ia163 rfl
theorem i163_15 {xs : List Int32} : xtI (xTa xs) 163 15 = some (.if_icmp .ge 13, 3) := x_ins (j := 11) kk163 ia163 rfl
theorem i163_18 {xs : List Int32} : xtI (xTa xs) 163 18 = some (.aload_n 0, 1) := x_ins (j := 12) kk163 ia163 rfl
theorem i163_19 {xs : List Int32} : xtI (xTa xs) 163 19 = some (.iload_n 1, 1) := x_ins (j := 13) kk163 ia163 rfl
theorem i163_20 {xs : List Int32} : xtI (xTa xs) 163 20 = some (.iload_n 3, 1) := x_ins (j := 14) kk163 ia163 rfl
theorem i163_21 {xs : List Int32} : xtI (xTa xs) 163 21 = some (.iadd, 1) := x_ins (j := 15) kk163 ia163 rfl
theorem i163_22 {xs : List Int32} : xtI (xTa xs) 163 22 = some (.iaload, 1) := x_ins (j := 16) kk163 ia163 rfl
theorem i163_23 {xs : List Int32} : xtI (xTa xs) 163 23 = some (.bipush 46, 2) := x_ins (j := 17) kk163 ia163 rfl
theorem i163_25 {xs : List Int32} : xtI (xTa xs) 163 25 = some (.if_icmp .eq 5, 3) := x_ins (j := 18) kk163 ia163 rfl
theorem i163_28 {xs : List Int32} : xtI (xTa xs) 163 28 = some (.iload_n 3, 1) := x_ins (j := 19) kk163 ia163 rfl
theorem i163_29 {xs : List Int32} : xtI (xTa xs) 163 29 = some (.ireturn, 1) := x_ins (j := 20) kk163 ia163 rfl
theorem i163_30 {xs : List Int32} : xtI (xTa xs) 163 30 = some (.aload_n 0, 1) := x_ins (j := 21) kk163 ia163 rfl
theorem i163_31 {xs : List Int32} : xtI (xTa xs) 163 31 = some (.iload_n 1, 1) := x_ins (j := 22) kk163 ia163 rfl
theorem i163_32 {xs : List Int32} : xtI (xTa xs) 163 32 = some (.iload_n 3, 1) := x_ins (j := 23) kk163 ia163 rfl
theorem i163_33 {xs : List Int32} : xtI (xTa xs) 163 33 = some (.iadd, 1) := x_ins (j := 24) kk163 ia163 rfl
theorem i163_34 {xs : List Int32} : xtI (xTa xs) 163 34 = some (.iconst 1, 1) := x_ins (j := 25) kk163 ia163 rfl
theorem i163_35 {xs : List Int32} : xtI (xTa xs) 163 35 = some (.iadd, 1) := x_ins (j := 26) kk163 ia163 rfl
theorem i163_36 {xs : List Int32} : xtI (xTa xs) 163 36 = some (.iload_n 2, 1) := x_ins (j := 27) kk163 ia163 rfl
theorem i163_37 {xs : List Int32} : xtI (xTa xs) 163 37 = some (.invokestatic 205, 3) := x_ins (j := 28) kk163 ia163 rfl
theorem i163_40 {xs : List Int32} : xtI (xTa xs) 163 40 = some (.istore 4, 2) := x_ins (j := 29) kk163 ia163 rfl
theorem i163_42 {xs : List Int32} : xtI (xTa xs) 163 42 = some (.iload 4, 2) := x_ins (j := 30) kk163 ia163 rfl
theorem i163_44 {xs : List Int32} : xtI (xTa xs) 163 44 = some (.ifCond .ne 7, 3) := x_ins (j := 31) kk163 ia163 rfl
theorem i163_47 {xs : List Int32} : xtI (xTa xs) 163 47 = some (.iconst 0, 1) := x_ins (j := 32) kk163 ia163 rfl
theorem i163_48 {xs : List Int32} : xtI (xTa xs) 163 48 = some (.goto 9, 3) := x_ins (j := 33) kk163 ia163 rfl
theorem i163_51 {xs : List Int32} : xtI (xTa xs) 163 51 = some (.iload_n 3, 1) := x_ins (j := 34) kk163 ia163 rfl
theorem i163_52 {xs : List Int32} : xtI (xTa xs) 163 52 = some (.iconst 1, 1) := x_ins (j := 35) kk163 ia163 rfl
theorem i163_53 {xs : List Int32} : xtI (xTa xs) 163 53 = some (.iadd, 1) := x_ins (j := 36) kk163 ia163 rfl
theorem i163_54 {xs : List Int32} : xtI (xTa xs) 163 54 = some (.iload 4, 2) := x_ins (j := 37) kk163 ia163 rfl
theorem i163_56 {xs : List Int32} : xtI (xTa xs) 163 56 = some (.iadd, 1) := x_ins (j := 38) kk163 ia163 rfl
theorem i163_57 {xs : List Int32} : xtI (xTa xs) 163 57 = some (.ireturn, 1) := x_ins (j := 39) kk163 ia163 rfl
theorem kk164 : xK0.getD 164 [] = k164 := rfl
set_option maxRecDepth 100000 in
theorem ia164 : (k164.all fun e => decide (k164.lookup e.1 = some e.2)) = true := by decide +kernel
theorem i164_0 {xs : List Int32} : xtI (xTa xs) 164 0 = some (.aload_n 2, 1) := x_ins (j := 0) kk164 ia164 rfl
theorem i164_1 {xs : List Int32} : xtI (xTa xs) 164 1 = some (.iload_n 3, 1) := x_ins (j := 1) kk164 ia164 rfl
theorem i164_2 {xs : List Int32} : xtI (xTa xs) 164 2 = some (.iload_n 3, 1) := x_ins (j := 2) kk164 ia164 rfl
theorem i164_3 {xs : List Int32} : xtI (xTa xs) 164 3 = some (.iload 4, 2) := x_ins (j := 3) kk164 ia164 rfl
theorem i164_5 {xs : List Int32} : xtI (xTa xs) 164 5 = some (.iadd, 1) := x_ins (j := 4) kk164 ia164 rfl
theorem i164_6 {xs : List Int32} : xtI (xTa xs) 164 6 = some (.invokestatic 205, 3) := x_ins (j := 5) kk164 ia164 rfl
theorem i164_9 {xs : List Int32} : xtI (xTa xs) 164 9 = some (.istore 5, 2) := x_ins (j := 6) kk164 ia164 rfl
theorem i164_11 {xs : List Int32} : xtI (xTa xs) 164 11 = some (.aload_n 0, 1) := x_ins (j := 7) kk164 ia164 rfl
theorem i164_12 {xs : List Int32} : xtI (xTa xs) 164 12 = some (.getfield 13, 3) := x_ins (j := 8) kk164 ia164 rfl
theorem i164_15 {xs : List Int32} : xtI (xTa xs) 164 15 = some (.iload_n 1, 1) := x_ins (j := 9) kk164 ia164 rfl
theorem i164_16 {xs : List Int32} : xtI (xTa xs) 164 16 = some (.baload, 1) := x_ins (j := 10) kk164 ia164 rfl
theorem i164_17 {xs : List Int32} : xtI (xTa xs) 164 17 = some (.ifCond .eq 7, 3) := x_ins (j := 11) kk164 ia164 rfl
theorem i164_20 {xs : List Int32} : xtI (xTa xs) 164 20 = some (.iload_n 1, 1) := x_ins (j := 12) kk164 ia164 rfl
theorem i164_21 {xs : List Int32} : xtI (xTa xs) 164 21 = some (.goto 9, 3) := x_ins (j := 13) kk164 ia164 rfl
theorem i164_24 {xs : List Int32} : xtI (xTa xs) 164 24 = some (.aload_n 0, 1) := x_ins (j := 14) kk164 ia164 rfl
theorem i164_25 {xs : List Int32} : xtI (xTa xs) 164 25 = some (.getfield 17, 3) := x_ins (j := 15) kk164 ia164 rfl
theorem i164_28 {xs : List Int32} : xtI (xTa xs) 164 28 = some (.iload_n 1, 1) := x_ins (j := 16) kk164 ia164 rfl
theorem i164_29 {xs : List Int32} : xtI (xTa xs) 164 29 = some (.iaload, 1) := x_ins (j := 17) kk164 ia164 rfl
theorem i164_30 {xs : List Int32} : xtI (xTa xs) 164 30 = some (.istore 6, 2) := x_ins (j := 18) kk164 ia164 rfl
theorem i164_32 {xs : List Int32} : xtI (xTa xs) 164 32 = some (.iload 5, 2) := x_ins (j := 19) kk164 ia164 rfl
theorem i164_34 {xs : List Int32} : xtI (xTa xs) 164 34 = some (.iload 4, 2) := x_ins (j := 20) kk164 ia164 rfl
theorem i164_36 {xs : List Int32} : xtI (xTa xs) 164 36 = some (.if_icmp .ne 34, 3) := x_ins (j := 21) kk164 ia164 rfl
theorem i164_39 {xs : List Int32} : xtI (xTa xs) 164 39 = some (.aload_n 2, 1) := x_ins (j := 22) kk164 ia164 rfl
theorem i164_40 {xs : List Int32} : xtI (xTa xs) 164 40 = some (.iload_n 3, 1) := x_ins (j := 23) kk164 ia164 rfl
theorem i164_41 {xs : List Int32} : xtI (xTa xs) 164 41 = some (.iaload, 1) := x_ins (j := 24) kk164 ia164 rfl
theorem i164_42 {xs : List Int32} : xtI (xTa xs) 164 42 = some (.invokestatic 165, 3) := x_ins (j := 25) kk164 ia164 rfl
theorem i164_45 {xs : List Int32} : xtI (xTa xs) 164 45 = some (.ifCond .eq 14, 3) := x_ins (j := 26) kk164 ia164 rfl
theorem i164_48 {xs : List Int32} : xtI (xTa xs) 164 48 = some (.aload_n 0, 1) := x_ins (j := 27) kk164 ia164 rfl
theorem i164_49 {xs : List Int32} : xtI (xTa xs) 164 49 = some (.aload_n 2, 1) := x_ins (j := 28) kk164 ia164 rfl
theorem i164_50 {xs : List Int32} : xtI (xTa xs) 164 50 = some (.iload_n 3, 1) := x_ins (j := 29) kk164 ia164 rfl
theorem i164_51 {xs : List Int32} : xtI (xTa xs) 164 51 = some (.iload 4, 2) := x_ins (j := 30) kk164 ia164 rfl
theorem i164_53 {xs : List Int32} : xtI (xTa xs) 164 53 = some (.invokevirtual 209, 3) := x_ins (j := 31) kk164 ia164 rfl
theorem i164_56 {xs : List Int32} : xtI (xTa xs) 164 56 = some (.goto 13, 3) := x_ins (j := 32) kk164 ia164 rfl
theorem i164_59 {xs : List Int32} : xtI (xTa xs) 164 59 = some (.aload_n 0, 1) := x_ins (j := 33) kk164 ia164 rfl
theorem i164_60 {xs : List Int32} : xtI (xTa xs) 164 60 = some (.iload 6, 2) := x_ins (j := 34) kk164 ia164 rfl
theorem i164_62 {xs : List Int32} : xtI (xTa xs) 164 62 = some (.aload_n 2, 1) := x_ins (j := 35) kk164 ia164 rfl
theorem i164_63 {xs : List Int32} : xtI (xTa xs) 164 63 = some (.iload_n 3, 1) := x_ins (j := 36) kk164 ia164 rfl
theorem i164_64 {xs : List Int32} : xtI (xTa xs) 164 64 = some (.iload 4, 2) := x_ins (j := 37) kk164 ia164 rfl
theorem i164_66 {xs : List Int32} : xtI (xTa xs) 164 66 = some (.invokevirtual 190, 3) := x_ins (j := 38) kk164 ia164 rfl
theorem i164_69 {xs : List Int32} : xtI (xTa xs) 164 69 = some (.ireturn, 1) := x_ins (j := 39) kk164 ia164 rfl
theorem i164_70 {xs : List Int32} : xtI (xTa xs) 164 70 = some (.aload_n 2, 1) := x_ins (j := 40) kk164 ia164 rfl
theorem i164_71 {xs : List Int32} : xtI (xTa xs) 164 71 = some (.iload_n 3, 1) := x_ins (j := 41) kk164 ia164 rfl
theorem i164_72 {xs : List Int32} : xtI (xTa xs) 164 72 = some (.iaload, 1) := x_ins (j := 42) kk164 ia164 rfl
theorem i164_73 {xs : List Int32} : xtI (xTa xs) 164 73 = some (.invokestatic 165, 3) := x_ins (j := 43) kk164 ia164 rfl
theorem i164_76 {xs : List Int32} : xtI (xTa xs) 164 76 = some (.ifCond .eq 14, 3) := x_ins (j := 44) kk164 ia164 rfl
theorem i164_79 {xs : List Int32} : xtI (xTa xs) 164 79 = some (.aload_n 0, 1) := x_ins (j := 45) kk164 ia164 rfl
theorem i164_80 {xs : List Int32} : xtI (xTa xs) 164 80 = some (.aload_n 2, 1) := x_ins (j := 46) kk164 ia164 rfl
theorem i164_81 {xs : List Int32} : xtI (xTa xs) 164 81 = some (.iload_n 3, 1) := x_ins (j := 47) kk164 ia164 rfl
theorem i164_82 {xs : List Int32} : xtI (xTa xs) 164 82 = some (.iload 5, 2) := x_ins (j := 48) kk164 ia164 rfl
theorem i164_84 {xs : List Int32} : xtI (xTa xs) 164 84 = some (.invokevirtual 209, 3) := x_ins (j := 49) kk164 ia164 rfl
theorem i164_87 {xs : List Int32} : xtI (xTa xs) 164 87 = some (.goto 4, 3) := x_ins (j := 50) kk164 ia164 rfl
theorem i164_90 {xs : List Int32} : xtI (xTa xs) 164 90 = some (.iconst (-1), 1) := x_ins (j := 51) kk164 ia164 rfl
theorem i164_91 {xs : List Int32} : xtI (xTa xs) 164 91 = some (.istore 7, 2) := x_ins (j := 52) kk164 ia164 rfl
theorem i164_93 {xs : List Int32} : xtI (xTa xs) 164 93 = some (.iload_n 3, 1) := x_ins (j := 53) kk164 ia164 rfl
theorem i164_94 {xs : List Int32} : xtI (xTa xs) 164 94 = some (.iload 5, 2) := x_ins (j := 54) kk164 ia164 rfl
theorem i164_96 {xs : List Int32} : xtI (xTa xs) 164 96 = some (.iadd, 1) := x_ins (j := 55) kk164 ia164 rfl
theorem i164_97 {xs : List Int32} : xtI (xTa xs) 164 97 = some (.iconst 1, 1) := x_ins (j := 56) kk164 ia164 rfl
theorem i164_98 {xs : List Int32} : xtI (xTa xs) 164 98 = some (.iadd, 1) := x_ins (j := 57) kk164 ia164 rfl
theorem i164_99 {xs : List Int32} : xtI (xTa xs) 164 99 = some (.istore 8, 2) := x_ins (j := 58) kk164 ia164 rfl
theorem i164_101 {xs : List Int32} : xtI (xTa xs) 164 101 = some (.iload 7, 2) := x_ins (j := 59) kk164 ia164 rfl
theorem i164_103 {xs : List Int32} : xtI (xTa xs) 164 103 = some (.iconst (-1), 1) := x_ins (j := 60) kk164 ia164 rfl
theorem i164_104 {xs : List Int32} : xtI (xTa xs) 164 104 = some (.if_icmp .eq 13, 3) := x_ins (j := 61) kk164 ia164 rfl
theorem i164_107 {xs : List Int32} : xtI (xTa xs) 164 107 = some (.aload_n 2, 1) := x_ins (j := 62) kk164 ia164 rfl
theorem i164_108 {xs : List Int32} : xtI (xTa xs) 164 108 = some (.iload 8, 2) := x_ins (j := 63) kk164 ia164 rfl
theorem i164_110 {xs : List Int32} : xtI (xTa xs) 164 110 = some (.iaload, 1) := x_ins (j := 64) kk164 ia164 rfl
theorem i164_111 {xs : List Int32} : xtI (xTa xs) 164 111 = some (.invokestatic 168, 3) := x_ins (j := 65) kk164 ia164 rfl
theorem i164_114 {xs : List Int32} : xtI (xTa xs) 164 114 = some (.ifCond .ne 7, 3) := x_ins (j := 66) kk164 ia164 rfl
theorem i164_117 {xs : List Int32} : xtI (xTa xs) 164 117 = some (.iconst (-1), 1) := x_ins (j := 67) kk164 ia164 rfl
theorem i164_118 {xs : List Int32} : xtI (xTa xs) 164 118 = some (.goto 19, 3) := x_ins (j := 68) kk164 ia164 rfl
theorem i164_121 {xs : List Int32} : xtI (xTa xs) 164 121 = some (.aload_n 0, 1) := x_ins (j := 69) kk164 ia164 rfl
theorem i164_122 {xs : List Int32} : xtI (xTa xs) 164 122 = some (.iload 7, 2) := x_ins (j := 70) kk164 ia164 rfl
theorem i164_124 {xs : List Int32} : xtI (xTa xs) 164 124 = some (.aload_n 2, 1) := x_ins (j := 71) kk164 ia164 rfl
theorem i164_125 {xs : List Int32} : xtI (xTa xs) 164 125 = some (.iload 8, 2) := x_ins (j := 72) kk164 ia164 rfl
theorem i164_127 {xs : List Int32} : xtI (xTa xs) 164 127 = some (.iload 4, 2) := x_ins (j := 73) kk164 ia164 rfl
theorem i164_129 {xs : List Int32} : xtI (xTa xs) 164 129 = some (.iload 5, 2) := x_ins (j := 74) kk164 ia164 rfl
theorem i164_131 {xs : List Int32} : xtI (xTa xs) 164 131 = some (.isub, 1) := x_ins (j := 75) kk164 ia164 rfl
theorem i164_132 {xs : List Int32} : xtI (xTa xs) 164 132 = some (.iconst 1, 1) := x_ins (j := 76) kk164 ia164 rfl
theorem i164_133 {xs : List Int32} : xtI (xTa xs) 164 133 = some (.isub, 1) := x_ins (j := 77) kk164 ia164 rfl
theorem i164_134 {xs : List Int32} : xtI (xTa xs) 164 134 = some (.invokevirtual 190, 3) := x_ins (j := 78) kk164 ia164 rfl
theorem i164_137 {xs : List Int32} : xtI (xTa xs) 164 137 = some (.ireturn, 1) := x_ins (j := 79) kk164 ia164 rfl
theorem kk165 : xK0.getD 165 [] = k165 := rfl
set_option maxRecDepth 100000 in
theorem ia165 : (k165.all fun e => decide (k165.lookup e.1 = some e.2)) = true := by decide +kernel
theorem i165_0 {xs : List Int32} : xtI (xTa xs) 165 0 = some (.aload_n 0, 1) := x_ins (j := 0) kk165 ia165 rfl
theorem i165_1 {xs : List Int32} : xtI (xTa xs) 165 1 = some (.getfield 146, 3) := x_ins (j := 1) kk165 ia165 rfl
theorem i165_4 {xs : List Int32} : xtI (xTa xs) 165 4 = some (.istore_n 2, 1) := x_ins (j := 2) kk165 ia165 rfl
theorem i165_5 {xs : List Int32} : xtI (xTa xs) 165 5 = some (.aload_n 0, 1) := x_ins (j := 3) kk165 ia165 rfl
theorem i165_6 {xs : List Int32} : xtI (xTa xs) 165 6 = some (.iconst 0, 1) := x_ins (j := 4) kk165 ia165 rfl
theorem i165_7 {xs : List Int32} : xtI (xTa xs) 165 7 = some (.putfield 146, 3) := x_ins (j := 5) kk165 ia165 rfl
theorem i165_10 {xs : List Int32} : xtI (xTa xs) 165 10 = some (.aload_n 0, 1) := x_ins (j := 6) kk165 ia165 rfl
theorem i165_11 {xs : List Int32} : xtI (xTa xs) 165 11 = some (.iload_n 1, 1) := x_ins (j := 7) kk165 ia165 rfl
theorem i165_12 {xs : List Int32} : xtI (xTa xs) 165 12 = some (.invokevirtual 161, 3) := x_ins (j := 8) kk165 ia165 rfl
theorem i165_15 {xs : List Int32} : xtI (xTa xs) 165 15 = some (.ifCond .ne 6, 3) := x_ins (j := 9) kk165 ia165 rfl
theorem i165_18 {xs : List Int32} : xtI (xTa xs) 165 18 = some (.bipush (-9), 2) := x_ins (j := 10) kk165 ia165 rfl
theorem i165_20 {xs : List Int32} : xtI (xTa xs) 165 20 = some (.ireturn, 1) := x_ins (j := 11) kk165 ia165 rfl
theorem i165_21 {xs : List Int32} : xtI (xTa xs) 165 21 = some (.iload_n 2, 1) := x_ins (j := 12) kk165 ia165 rfl
theorem i165_22 {xs : List Int32} : xtI (xTa xs) 165 22 = some (.ifCond .le 30, 3) := x_ins (j := 13) kk165 ia165 rfl
theorem i165_25 {xs : List Int32} : xtI (xTa xs) 165 25 = some (.aload_n 0, 1) := x_ins (j := 14) kk165 ia165 rfl
theorem i165_26 {xs : List Int32} : xtI (xTa xs) 165 26 = some (.getfield 9, 3) := x_ins (j := 15) kk165 ia165 rfl
theorem i165_29 {xs : List Int32} : xtI (xTa xs) 165 29 = some (.iconst 0, 1) := x_ins (j := 16) kk165 ia165 rfl
theorem i165_30 {xs : List Int32} : xtI (xTa xs) 165 30 = some (.iload_n 2, 1) := x_ins (j := 17) kk165 ia165 rfl
theorem i165_31 {xs : List Int32} : xtI (xTa xs) 165 31 = some (.invokestatic 212, 3) := x_ins (j := 18) kk165 ia165 rfl
theorem i165_34 {xs : List Int32} : xtI (xTa xs) 165 34 = some (.iload_n 2, 1) := x_ins (j := 19) kk165 ia165 rfl
theorem i165_35 {xs : List Int32} : xtI (xTa xs) 165 35 = some (.if_icmp .ne 17, 3) := x_ins (j := 20) kk165 ia165 rfl
theorem i165_38 {xs : List Int32} : xtI (xTa xs) 165 38 = some (.aload_n 0, 1) := x_ins (j := 21) kk165 ia165 rfl
theorem i165_39 {xs : List Int32} : xtI (xTa xs) 165 39 = some (.iload_n 1, 1) := x_ins (j := 22) kk165 ia165 rfl
theorem i165_40 {xs : List Int32} : xtI (xTa xs) 165 40 = some (.aload_n 0, 1) := x_ins (j := 23) kk165 ia165 rfl
theorem i165_41 {xs : List Int32} : xtI (xTa xs) 165 41 = some (.getfield 9, 3) := x_ins (j := 24) kk165 ia165 rfl
theorem i165_44 {xs : List Int32} : xtI (xTa xs) 165 44 = some (.iconst 0, 1) := x_ins (j := 25) kk165 ia165 rfl
theorem i165_45 {xs : List Int32} : xtI (xTa xs) 165 45 = some (.iload_n 2, 1) := x_ins (j := 26) kk165 ia165 rfl
theorem i165_46 {xs : List Int32} : xtI (xTa xs) 165 46 = some (.invokevirtual 215, 3) := x_ins (j := 27) kk165 ia165 rfl
theorem i165_49 {xs : List Int32} : xtI (xTa xs) 165 49 = some (.goto 4, 3) := x_ins (j := 28) kk165 ia165 rfl
theorem i165_52 {xs : List Int32} : xtI (xTa xs) 165 52 = some (.iconst (-1), 1) := x_ins (j := 29) kk165 ia165 rfl
theorem i165_53 {xs : List Int32} : xtI (xTa xs) 165 53 = some (.ireturn, 1) := x_ins (j := 30) kk165 ia165 rfl
theorem kk166 : xK0.getD 166 [] = k166 := rfl
set_option maxRecDepth 100000 in
theorem ia166 : (k166.all fun e => decide (k166.lookup e.1 = some e.2)) = true := by decide +kernel
theorem i166_0 {xs : List Int32} : xtI (xTa xs) 166 0 = some (.aload_n 0, 1) := x_ins (j := 0) kk166 ia166 rfl
theorem i166_1 {xs : List Int32} : xtI (xTa xs) 166 1 = some (.getfield 218, 3) := x_ins (j := 1) kk166 ia166 rfl
theorem i166_4 {xs : List Int32} : xtI (xTa xs) 166 4 = some (.ifCond .ne 13, 3) := x_ins (j := 2) kk166 ia166 rfl
theorem i166_7 {xs : List Int32} : xtI (xTa xs) 166 7 = some (.aload_n 0, 1) := x_ins (j := 3) kk166 ia166 rfl
theorem i166_8 {xs : List Int32} : xtI (xTa xs) 166 8 = some (.iload_n 1, 1) := x_ins (j := 4) kk166 ia166 rfl
theorem i166_9 {xs : List Int32} : xtI (xTa xs) 166 9 = some (.putfield 218, 3) := x_ins (j := 5) kk166 ia166 rfl
theorem i166_12 {xs : List Int32} : xtI (xTa xs) 166 12 = some (.aload_n 0, 1) := x_ins (j := 6) kk166 ia166 rfl
theorem i166_13 {xs : List Int32} : xtI (xTa xs) 166 13 = some (.iload_n 2, 1) := x_ins (j := 7) kk166 ia166 rfl
theorem i166_14 {xs : List Int32} : xtI (xTa xs) 166 14 = some (.putfield 221, 3) := x_ins (j := 8) kk166 ia166 rfl
theorem i166_17 {xs : List Int32} : xtI (xTa xs) 166 17 = some (.return_, 1) := x_ins (j := 9) kk166 ia166 rfl
theorem kk167 : xK0.getD 167 [] = k167 := rfl
set_option maxRecDepth 100000 in
theorem ia167 : (k167.all fun e => decide (k167.lookup e.1 = some e.2)) = true := by decide +kernel
theorem i167_0 {xs : List Int32} : xtI (xTa xs) 167 0 = some (.aload_n 0, 1) := x_ins (j := 0) kk167 ia167 rfl
theorem i167_1 {xs : List Int32} : xtI (xTa xs) 167 1 = some (.getfield 41, 3) := x_ins (j := 1) kk167 ia167 rfl
theorem i167_4 {xs : List Int32} : xtI (xTa xs) 167 4 = some (.sipush 24000, 3) := x_ins (j := 2) kk167 ia167 rfl
theorem i167_7 {xs : List Int32} : xtI (xTa xs) 167 7 = some (.iload_n 1, 1) := x_ins (j := 3) kk167 ia167 rfl
theorem i167_8 {xs : List Int32} : xtI (xTa xs) 167 8 = some (.iadd, 1) := x_ins (j := 4) kk167 ia167 rfl
theorem i167_9 {xs : List Int32} : xtI (xTa xs) 167 9 = some (.iaload, 1) := x_ins (j := 5) kk167 ia167 rfl
theorem i167_10 {xs : List Int32} : xtI (xTa xs) 167 10 = some (.ireturn, 1) := x_ins (j := 6) kk167 ia167 rfl
theorem kk168 : xK0.getD 168 [] = k168 := rfl
set_option maxRecDepth 100000 in
theorem ia168 : (k168.all fun e => decide (k168.lookup e.1 = some e.2)) = true := by decide +kernel
theorem i168_0 {xs : List Int32} : xtI (xTa xs) 168 0 = some (.iload_n 1, 1) := x_ins (j := 0) kk168 ia168 rfl
theorem i168_1 {xs : List Int32} : xtI (xTa xs) 168 1 = some (.iload 4, 2) := x_ins (j := 1) kk168 ia168 rfl
theorem i168_3 {xs : List Int32} : xtI (xTa xs) 168 3 = some (.iadd, 1) := x_ins (j := 2) kk168 ia168 rfl
theorem i168_4 {xs : List Int32} : xtI (xTa xs) 168 4 = some (.aload_n 0, 1) := x_ins (j := 3) kk168 ia168 rfl
theorem i168_5 {xs : List Int32} : xtI (xTa xs) 168 5 = some (.getfield 224, 3) := x_ins (j := 4) kk168 ia168 rfl
theorem i168_8 {xs : List Int32} : xtI (xTa xs) 168 8 = some (.if_icmp .gt 7, 3) := x_ins (j := 5) kk168 ia168 rfl
theorem i168_11 {xs : List Int32} : xtI (xTa xs) 168 11 = some (.iconst 1, 1) := x_ins (j := 6) kk168 ia168 rfl
theorem i168_12 {xs : List Int32} : xtI (xTa xs) 168 12 = some (.goto 4, 3) := x_ins (j := 7) kk168 ia168 rfl
theorem i168_15 {xs : List Int32} : xtI (xTa xs) 168 15 = some (.iconst 0, 1) := x_ins (j := 8) kk168 ia168 rfl
theorem i168_16 {xs : List Int32} : xtI (xTa xs) 168 16 = some (.istore 5, 2) := x_ins (j := 9) kk168 ia168 rfl
theorem i168_18 {xs : List Int32} : xtI (xTa xs) 168 18 = some (.iconst 0, 1) := x_ins (j := 10) kk168 ia168 rfl
theorem i168_19 {xs : List Int32} : xtI (xTa xs) 168 19 = some (.istore 6, 2) := x_ins (j := 11) kk168 ia168 rfl
theorem i168_21 {xs : List Int32} : xtI (xTa xs) 168 21 = some (.iload 6, 2) := x_ins (j := 12) kk168 ia168 rfl
theorem i168_23 {xs : List Int32} : xtI (xTa xs) 168 23 = some (.iload 4, 2) := x_ins (j := 13) kk168 ia168 rfl
theorem i168_25 {xs : List Int32} : xtI (xTa xs) 168 25 = some (.if_icmp .ge 49, 3) := x_ins (j := 14) kk168 ia168 rfl
theorem i168_28 {xs : List Int32} : xtI (xTa xs) 168 28 = some (.iload 5, 2) := x_ins (j := 15) kk168 ia168 rfl
theorem i168_30 {xs : List Int32} : xtI (xTa xs) 168 30 = some (.ifCond .eq 44, 3) := x_ins (j := 16) kk168 ia168 rfl
theorem i168_33 {xs : List Int32} : xtI (xTa xs) 168 33 = some (.aload_n 0, 1) := x_ins (j := 17) kk168 ia168 rfl
theorem i168_34 {xs : List Int32} : xtI (xTa xs) 168 34 = some (.iload_n 1, 1) := x_ins (j := 18) kk168 ia168 rfl
theorem i168_35 {xs : List Int32} : xtI (xTa xs) 168 35 = some (.iload 6, 2) := x_ins (j := 19) kk168 ia168 rfl
theorem i168_37 {xs : List Int32} : xtI (xTa xs) 168 37 = some (.iadd, 1) := x_ins (j := 20) kk168 ia168 rfl
theorem i168_38 {xs : List Int32} : xtI (xTa xs) 168 38 = some (.invokevirtual 227, 3) := x_ins (j := 21) kk168 ia168 rfl
theorem i168_41 {xs : List Int32} : xtI (xTa xs) 168 41 = some (.lload_n 2, 1) := x_ins (j := 22) kk168 ia168 rfl
theorem i168_42 {xs : List Int32} : xtI (xTa xs) 168 42 = some (.bipush 8, 2) := x_ins (j := 23) kk168 ia168 rfl
theorem i168_44 {xs : List Int32} : xtI (xTa xs) 168 44 = some (.iload 4, 2) := x_ins (j := 24) kk168 ia168 rfl
theorem i168_46 {xs : List Int32} : xtI (xTa xs) 168 46 = some (.iconst 1, 1) := x_ins (j := 25) kk168 ia168 rfl
theorem i168_47 {xs : List Int32} : xtI (xTa xs) 168 47 = some (.isub, 1) := x_ins (j := 26) kk168 ia168 rfl
theorem i168_48 {xs : List Int32} : xtI (xTa xs) 168 48 = some (.iload 6, 2) := x_ins (j := 27) kk168 ia168 rfl
theorem i168_50 {xs : List Int32} : xtI (xTa xs) 168 50 = some (.isub, 1) := x_ins (j := 28) kk168 ia168 rfl
theorem i168_51 {xs : List Int32} : xtI (xTa xs) 168 51 = some (.imul, 1) := x_ins (j := 29) kk168 ia168 rfl
theorem i168_52 {xs : List Int32} : xtI (xTa xs) 168 52 = some (.lshr, 1) := x_ins (j := 30) kk168 ia168 rfl
theorem i168_53 {xs : List Int32} : xtI (xTa xs) 168 53 = some (.ldc2_w 230, 3) := x_ins (j := 31) kk168 ia168 rfl
theorem i168_56 {xs : List Int32} : xtI (xTa xs) 168 56 = some (.land, 1) := x_ins (j := 32) kk168 ia168 rfl
theorem i168_57 {xs : List Int32} : xtI (xTa xs) 168 57 = some (.l2i, 1) := x_ins (j := 33) kk168 ia168 rfl
theorem i168_58 {xs : List Int32} : xtI (xTa xs) 168 58 = some (.if_icmp .ne 7, 3) := x_ins (j := 34) kk168 ia168 rfl
theorem i168_61 {xs : List Int32} : xtI (xTa xs) 168 61 = some (.iconst 1, 1) := x_ins (j := 35) kk168 ia168 rfl
theorem i168_62 {xs : List Int32} : xtI (xTa xs) 168 62 = some (.goto 4, 3) := x_ins (j := 36) kk168 ia168 rfl
theorem i168_65 {xs : List Int32} : xtI (xTa xs) 168 65 = some (.iconst 0, 1) := x_ins (j := 37) kk168 ia168 rfl
theorem i168_66 {xs : List Int32} : xtI (xTa xs) 168 66 = some (.istore 5, 2) := x_ins (j := 38) kk168 ia168 rfl
theorem i168_68 {xs : List Int32} : xtI (xTa xs) 168 68 = some (.iinc 6 1, 3) := x_ins (j := 39) kk168 ia168 rfl
theorem i168_71 {xs : List Int32} : xtI (xTa xs) 168 71 = some (.goto (-50), 3) := x_ins (j := 40) kk168 ia168 rfl
theorem i168_74 {xs : List Int32} : xtI (xTa xs) 168 74 = some (.iload 5, 2) := x_ins (j := 41) kk168 ia168 rfl
theorem i168_76 {xs : List Int32} : xtI (xTa xs) 168 76 = some (.ireturn, 1) := x_ins (j := 42) kk168 ia168 rfl
theorem kk169 : xK0.getD 169 [] = k169 := rfl
set_option maxRecDepth 100000 in
theorem ia169 : (k169.all fun e => decide (k169.lookup e.1 = some e.2)) = true := by decide +kernel
theorem i169_0 {xs : List Int32} : xtI (xTa xs) 169 0 = some (.iload_n 1, 1) := x_ins (j := 0) kk169 ia169 rfl
theorem i169_1 {xs : List Int32} : xtI (xTa xs) 169 1 = some (.istore_n 2, 1) := x_ins (j := 1) kk169 ia169 rfl
theorem i169_2 {xs : List Int32} : xtI (xTa xs) 169 2 = some (.iload_n 2, 1) := x_ins (j := 2) kk169 ia169 rfl
theorem i169_3 {xs : List Int32} : xtI (xTa xs) 169 3 = some (.aload_n 0, 1) := x_ins (j := 3) kk169 ia169 rfl
theorem i169_4 {xs : List Int32} : xtI (xTa xs) 169 4 = some (.getfield 224, 3) := x_ins (j := 4) kk169 ia169 rfl
theorem i169_7 {xs : List Int32} : xtI (xTa xs) 169 7 = some (.if_icmp .ge 19, 3) := x_ins (j := 5) kk169 ia169 rfl
theorem i169_10 {xs : List Int32} : xtI (xTa xs) 169 10 = some (.aload_n 0, 1) := x_ins (j := 6) kk169 ia169 rfl
theorem i169_11 {xs : List Int32} : xtI (xTa xs) 169 11 = some (.iload_n 2, 1) := x_ins (j := 7) kk169 ia169 rfl
theorem i169_12 {xs : List Int32} : xtI (xTa xs) 169 12 = some (.invokevirtual 227, 3) := x_ins (j := 8) kk169 ia169 rfl
theorem i169_15 {xs : List Int32} : xtI (xTa xs) 169 15 = some (.bipush 32, 2) := x_ins (j := 9) kk169 ia169 rfl
theorem i169_17 {xs : List Int32} : xtI (xTa xs) 169 17 = some (.if_icmp .ne 9, 3) := x_ins (j := 10) kk169 ia169 rfl
theorem i169_20 {xs : List Int32} : xtI (xTa xs) 169 20 = some (.iinc 2 1, 3) := x_ins (j := 11) kk169 ia169 rfl
theorem i169_23 {xs : List Int32} : xtI (xTa xs) 169 23 = some (.goto (-21), 3) := x_ins (j := 12) kk169 ia169 rfl
theorem i169_26 {xs : List Int32} : xtI (xTa xs) 169 26 = some (.iload_n 2, 1) := x_ins (j := 13) kk169 ia169 rfl
theorem i169_27 {xs : List Int32} : xtI (xTa xs) 169 27 = some (.ireturn, 1) := x_ins (j := 14) kk169 ia169 rfl
theorem kk170 : xK0.getD 170 [] = k170 := rfl
set_option maxRecDepth 100000 in
theorem ia170 : (k170.all fun e => decide (k170.lookup e.1 = some e.2)) = true := by decide +kernel
theorem i170_0 {xs : List Int32} : xtI (xTa xs) 170 0 = some (.iload_n 1, 1) := x_ins (j := 0) kk170 ia170 rfl
theorem i170_1 {xs : List Int32} : xtI (xTa xs) 170 1 = some (.istore_n 2, 1) := x_ins (j := 1) kk170 ia170 rfl
theorem i170_2 {xs : List Int32} : xtI (xTa xs) 170 2 = some (.iload_n 2, 1) := x_ins (j := 2) kk170 ia170 rfl
theorem i170_3 {xs : List Int32} : xtI (xTa xs) 170 3 = some (.aload_n 0, 1) := x_ins (j := 3) kk170 ia170 rfl
theorem i170_4 {xs : List Int32} : xtI (xTa xs) 170 4 = some (.getfield 224, 3) := x_ins (j := 4) kk170 ia170 rfl
theorem i170_7 {xs : List Int32} : xtI (xTa xs) 170 7 = some (.if_icmp .ge 19, 3) := x_ins (j := 5) kk170 ia170 rfl
theorem i170_10 {xs : List Int32} : xtI (xTa xs) 170 10 = some (.aload_n 0, 1) := x_ins (j := 6) kk170 ia170 rfl
theorem i170_11 {xs : List Int32} : xtI (xTa xs) 170 11 = some (.iload_n 2, 1) := x_ins (j := 7) kk170 ia170 rfl
theorem i170_12 {xs : List Int32} : xtI (xTa xs) 170 12 = some (.invokevirtual 227, 3) := x_ins (j := 8) kk170 ia170 rfl
theorem i170_15 {xs : List Int32} : xtI (xTa xs) 170 15 = some (.bipush 32, 2) := x_ins (j := 9) kk170 ia170 rfl
theorem i170_17 {xs : List Int32} : xtI (xTa xs) 170 17 = some (.if_icmp .eq 9, 3) := x_ins (j := 10) kk170 ia170 rfl
theorem i170_20 {xs : List Int32} : xtI (xTa xs) 170 20 = some (.iinc 2 1, 3) := x_ins (j := 11) kk170 ia170 rfl
theorem i170_23 {xs : List Int32} : xtI (xTa xs) 170 23 = some (.goto (-21), 3) := x_ins (j := 12) kk170 ia170 rfl
theorem i170_26 {xs : List Int32} : xtI (xTa xs) 170 26 = some (.iload_n 2, 1) := x_ins (j := 13) kk170 ia170 rfl
theorem i170_27 {xs : List Int32} : xtI (xTa xs) 170 27 = some (.ireturn, 1) := x_ins (j := 14) kk170 ia170 rfl
theorem kk171 : xK0.getD 171 [] = k171 := rfl
set_option maxRecDepth 100000 in
theorem ia171 : (k171.all fun e => decide (k171.lookup e.1 = some e.2)) = true := by decide +kernel
theorem i171_0 {xs : List Int32} : xtI (xTa xs) 171 0 = some (.aload_n 0, 1) := x_ins (j := 0) kk171 ia171 rfl
theorem i171_1 {xs : List Int32} : xtI (xTa xs) 171 1 = some (.iload_n 1, 1) := x_ins (j := 1) kk171 ia171 rfl
theorem i171_2 {xs : List Int32} : xtI (xTa xs) 171 2 = some (.ldc2_w 232, 3) := x_ins (j := 2) kk171 ia171 rfl
theorem i171_5 {xs : List Int32} : xtI (xTa xs) 171 5 = some (.bipush 6, 2) := x_ins (j := 3) kk171 ia171 rfl
theorem i171_7 {xs : List Int32} : xtI (xTa xs) 171 7 = some (.invokevirtual 234, 3) := x_ins (j := 4) kk171 ia171 rfl
theorem i171_10 {xs : List Int32} : xtI (xTa xs) 171 10 = some (.ifCond .eq 108, 3) := x_ins (j := 5) kk171 ia171 rfl
theorem i171_13 {xs : List Int32} : xtI (xTa xs) 171 13 = some (.iconst 1, 1) := x_ins (j := 6) kk171 ia171 rfl
theorem i171_14 {xs : List Int32} : xtI (xTa xs) 171 14 = some (.istore_n 2, 1) := x_ins (j := 7) kk171 ia171 rfl
theorem i171_15 {xs : List Int32} : xtI (xTa xs) 171 15 = some (.iload_n 1, 1) := x_ins (j := 8) kk171 ia171 rfl
theorem i171_16 {xs : List Int32} : xtI (xTa xs) 171 16 = some (.bipush 6, 2) := x_ins (j := 9) kk171 ia171 rfl
theorem i171_18 {xs : List Int32} : xtI (xTa xs) 171 18 = some (.iadd, 1) := x_ins (j := 10) kk171 ia171 rfl
theorem i171_19 {xs : List Int32} : xtI (xTa xs) 171 19 = some (.istore_n 3, 1) := x_ins (j := 11) kk171 ia171 rfl
theorem i171_20 {xs : List Int32} : xtI (xTa xs) 171 20 = some (.iload_n 3, 1) := x_ins (j := 12) kk171 ia171 rfl
theorem i171_21 {xs : List Int32} : xtI (xTa xs) 171 21 = some (.aload_n 0, 1) := x_ins (j := 13) kk171 ia171 rfl
theorem i171_22 {xs : List Int32} : xtI (xTa xs) 171 22 = some (.getfield 224, 3) := x_ins (j := 14) kk171 ia171 rfl
theorem i171_25 {xs : List Int32} : xtI (xTa xs) 171 25 = some (.if_icmp .ge 45, 3) := x_ins (j := 15) kk171 ia171 rfl
theorem i171_28 {xs : List Int32} : xtI (xTa xs) 171 28 = some (.iload_n 2, 1) := x_ins (j := 16) kk171 ia171 rfl
theorem i171_29 {xs : List Int32} : xtI (xTa xs) 171 29 = some (.ifCond .le 41, 3) := x_ins (j := 17) kk171 ia171 rfl
theorem i171_32 {xs : List Int32} : xtI (xTa xs) 171 32 = some (.iload_n 2, 1) := x_ins (j := 18) kk171 ia171 rfl
theorem i171_33 {xs : List Int32} : xtI (xTa xs) 171 33 = some (.aload_n 0, 1) := x_ins (j := 19) kk171 ia171 rfl
theorem i171_34 {xs : List Int32} : xtI (xTa xs) 171 34 = some (.iload_n 3, 1) := x_ins (j := 20) kk171 ia171 rfl
theorem i171_35 {xs : List Int32} : xtI (xTa xs) 171 35 = some (.invokevirtual 227, 3) := x_ins (j := 21) kk171 ia171 rfl
theorem i171_38 {xs : List Int32} : xtI (xTa xs) 171 38 = some (.bipush 123, 2) := x_ins (j := 22) kk171 ia171 rfl
theorem i171_40 {xs : List Int32} : xtI (xTa xs) 171 40 = some (.if_icmp .ne 7, 3) := x_ins (j := 23) kk171 ia171 rfl
theorem i171_43 {xs : List Int32} : xtI (xTa xs) 171 43 = some (.iconst 1, 1) := x_ins (j := 24) kk171 ia171 rfl
theorem i171_44 {xs : List Int32} : xtI (xTa xs) 171 44 = some (.goto 18, 3) := x_ins (j := 25) kk171 ia171 rfl
theorem i171_47 {xs : List Int32} : xtI (xTa xs) 171 47 = some (.aload_n 0, 1) := x_ins (j := 26) kk171 ia171 rfl
theorem i171_48 {xs : List Int32} : xtI (xTa xs) 171 48 = some (.iload_n 3, 1) := x_ins (j := 27) kk171 ia171 rfl
theorem i171_49 {xs : List Int32} : xtI (xTa xs) 171 49 = some (.invokevirtual 227, 3) := x_ins (j := 28) kk171 ia171 rfl
theorem i171_52 {xs : List Int32} : xtI (xTa xs) 171 52 = some (.bipush 125, 2) := x_ins (j := 29) kk171 ia171 rfl
theorem i171_54 {xs : List Int32} : xtI (xTa xs) 171 54 = some (.if_icmp .ne 7, 3) := x_ins (j := 30) kk171 ia171 rfl
theorem i171_57 {xs : List Int32} : xtI (xTa xs) 171 57 = some (.iconst (-1), 1) := x_ins (j := 31) kk171 ia171 rfl
theorem i171_58 {xs : List Int32} : xtI (xTa xs) 171 58 = some (.goto 4, 3) := x_ins (j := 32) kk171 ia171 rfl
theorem i171_61 {xs : List Int32} : xtI (xTa xs) 171 61 = some (.iconst 0, 1) := x_ins (j := 33) kk171 ia171 rfl
theorem i171_62 {xs : List Int32} : xtI (xTa xs) 171 62 = some (.iadd, 1) := x_ins (j := 34) kk171 ia171 rfl
theorem i171_63 {xs : List Int32} : xtI (xTa xs) 171 63 = some (.istore_n 2, 1) := x_ins (j := 35) kk171 ia171 rfl
theorem i171_64 {xs : List Int32} : xtI (xTa xs) 171 64 = some (.iinc 3 1, 3) := x_ins (j := 36) kk171 ia171 rfl
theorem i171_67 {xs : List Int32} : xtI (xTa xs) 171 67 = some (.goto (-47), 3) := x_ins (j := 37) kk171 ia171 rfl
theorem i171_70 {xs : List Int32} : xtI (xTa xs) 171 70 = some (.aload_n 0, 1) := x_ins (j := 38) kk171 ia171 rfl
theorem i171_71 {xs : List Int32} : xtI (xTa xs) 171 71 = some (.iload_n 1, 1) := x_ins (j := 39) kk171 ia171 rfl
theorem i171_72 {xs : List Int32} : xtI (xTa xs) 171 72 = some (.bipush 6, 2) := x_ins (j := 40) kk171 ia171 rfl
theorem i171_74 {xs : List Int32} : xtI (xTa xs) 171 74 = some (.iadd, 1) := x_ins (j := 41) kk171 ia171 rfl
theorem i171_75 {xs : List Int32} : xtI (xTa xs) 171 75 = some (.putfield 238, 3) := x_ins (j := 42) kk171 ia171 rfl
theorem i171_78 {xs : List Int32} : xtI (xTa xs) 171 78 = some (.aload_n 0, 1) := x_ins (j := 43) kk171 ia171 rfl
theorem i171_79 {xs : List Int32} : xtI (xTa xs) 171 79 = some (.iload_n 3, 1) := x_ins (j := 44) kk171 ia171 rfl
theorem i171_80 {xs : List Int32} : xtI (xTa xs) 171 80 = some (.iconst 1, 1) := x_ins (j := 45) kk171 ia171 rfl
theorem i171_81 {xs : List Int32} : xtI (xTa xs) 171 81 = some (.isub, 1) := x_ins (j := 46) kk171 ia171 rfl
theorem i171_82 {xs : List Int32} : xtI (xTa xs) 171 82 = some (.aload_n 0, 1) := x_ins (j := 47) kk171 ia171 rfl
theorem i171_83 {xs : List Int32} : xtI (xTa xs) 171 83 = some (.getfield 238, 3) := x_ins (j := 48) kk171 ia171 rfl
theorem i171_86 {xs : List Int32} : xtI (xTa xs) 171 86 = some (.isub, 1) := x_ins (j := 49) kk171 ia171 rfl
theorem i171_87 {xs : List Int32} : xtI (xTa xs) 171 87 = some (.putfield 241, 3) := x_ins (j := 50) kk171 ia171 rfl
theorem i171_90 {xs : List Int32} : xtI (xTa xs) 171 90 = some (.aload_n 0, 1) := x_ins (j := 51) kk171 ia171 rfl
theorem i171_91 {xs : List Int32} : xtI (xTa xs) 171 91 = some (.iload_n 3, 1) := x_ins (j := 52) kk171 ia171 rfl
theorem i171_92 {xs : List Int32} : xtI (xTa xs) 171 92 = some (.putfield 244, 3) := x_ins (j := 53) kk171 ia171 rfl
theorem i171_95 {xs : List Int32} : xtI (xTa xs) 171 95 = some (.iload_n 2, 1) := x_ins (j := 54) kk171 ia171 rfl
theorem i171_96 {xs : List Int32} : xtI (xTa xs) 171 96 = some (.ifCond .ne 20, 3) := x_ins (j := 55) kk171 ia171 rfl
theorem i171_99 {xs : List Int32} : xtI (xTa xs) 171 99 = some (.aload_n 0, 1) := x_ins (j := 56) kk171 ia171 rfl
theorem i171_100 {xs : List Int32} : xtI (xTa xs) 171 100 = some (.getfield 241, 3) := x_ins (j := 57) kk171 ia171 rfl
theorem i171_103 {xs : List Int32} : xtI (xTa xs) 171 103 = some (.iconst 1, 1) := x_ins (j := 58) kk171 ia171 rfl
theorem i171_104 {xs : List Int32} : xtI (xTa xs) 171 104 = some (.bipush 60, 2) := x_ins (j := 59) kk171 ia171 rfl
theorem i171_106 {xs : List Int32} : xtI (xTa xs) 171 106 = some (.invokestatic 154, 3) := x_ins (j := 60) kk171 ia171 rfl
theorem i171_109 {xs : List Int32} : xtI (xTa xs) 171 109 = some (.ifCond .eq 7, 3) := x_ins (j := 61) kk171 ia171 rfl
theorem i171_112 {xs : List Int32} : xtI (xTa xs) 171 112 = some (.iconst 1, 1) := x_ins (j := 62) kk171 ia171 rfl
theorem i171_113 {xs : List Int32} : xtI (xTa xs) 171 113 = some (.goto 4, 3) := x_ins (j := 63) kk171 ia171 rfl
theorem i171_116 {xs : List Int32} : xtI (xTa xs) 171 116 = some (.iconst (-1), 1) := x_ins (j := 64) kk171 ia171 rfl
theorem i171_117 {xs : List Int32} : xtI (xTa xs) 171 117 = some (.ireturn, 1) := x_ins (j := 65) kk171 ia171 rfl
theorem i171_118 {xs : List Int32} : xtI (xTa xs) 171 118 = some (.aload_n 0, 1) := x_ins (j := 66) kk171 ia171 rfl
theorem i171_119 {xs : List Int32} : xtI (xTa xs) 171 119 = some (.iload_n 1, 1) := x_ins (j := 67) kk171 ia171 rfl
theorem i171_120 {xs : List Int32} : xtI (xTa xs) 171 120 = some (.ldc2_w 247, 3) := x_ins (j := 68) kk171 ia171 rfl
theorem i171_123 {xs : List Int32} : xtI (xTa xs) 171 123 = some (.bipush 6, 2) := x_ins (j := 69) kk171 ia171 rfl
theorem i171_125 {xs : List Int32} : xtI (xTa xs) 171 125 = some (.invokevirtual 234, 3) := x_ins (j := 70) kk171 ia171 rfl
theorem i171_128 {xs : List Int32} : xtI (xTa xs) 171 128 = some (.ifCond .ne 5, 3) := x_ins (j := 71) kk171 ia171 rfl
theorem i171_131 {xs : List Int32} : xtI (xTa xs) 171 131 = some (.iconst (-1), 1) := x_ins (j := 72) kk171 ia171 rfl
theorem i171_132 {xs : List Int32} : xtI (xTa xs) 171 132 = some (.ireturn, 1) := x_ins (j := 73) kk171 ia171 rfl
theorem i171_133 {xs : List Int32} : xtI (xTa xs) 171 133 = some (.aload_n 0, 1) := x_ins (j := 74) kk171 ia171 rfl
theorem i171_134 {xs : List Int32} : xtI (xTa xs) 171 134 = some (.iload_n 1, 1) := x_ins (j := 75) kk171 ia171 rfl
theorem i171_135 {xs : List Int32} : xtI (xTa xs) 171 135 = some (.bipush 6, 2) := x_ins (j := 76) kk171 ia171 rfl
theorem i171_137 {xs : List Int32} : xtI (xTa xs) 171 137 = some (.iadd, 1) := x_ins (j := 77) kk171 ia171 rfl
theorem i171_138 {xs : List Int32} : xtI (xTa xs) 171 138 = some (.putfield 249, 3) := x_ins (j := 78) kk171 ia171 rfl
theorem i171_141 {xs : List Int32} : xtI (xTa xs) 171 141 = some (.aload_n 0, 1) := x_ins (j := 79) kk171 ia171 rfl
theorem i171_142 {xs : List Int32} : xtI (xTa xs) 171 142 = some (.aload_n 0, 1) := x_ins (j := 80) kk171 ia171 rfl
theorem i171_143 {xs : List Int32} : xtI (xTa xs) 171 143 = some (.getfield 41, 3) := x_ins (j := 81) kk171 ia171 rfl
theorem i171_146 {xs : List Int32} : xtI (xTa xs) 171 146 = some (.sipush 24000, 3) := x_ins (j := 82) kk171 ia171 rfl
theorem i171_149 {xs : List Int32} : xtI (xTa xs) 171 149 = some (.aload_n 0, 1) := x_ins (j := 83) kk171 ia171 rfl
theorem i171_150 {xs : List Int32} : xtI (xTa xs) 171 150 = some (.getfield 249, 3) := x_ins (j := 84) kk171 ia171 rfl
theorem i171_153 {xs : List Int32} : xtI (xTa xs) 171 153 = some (.iadd, 1) := x_ins (j := 85) kk171 ia171 rfl
theorem i171_154 {xs : List Int32} : xtI (xTa xs) 171 154 = some (.sipush 24000, 3) := x_ins (j := 86) kk171 ia171 rfl
theorem i171_157 {xs : List Int32} : xtI (xTa xs) 171 157 = some (.aload_n 0, 1) := x_ins (j := 87) kk171 ia171 rfl
theorem i171_158 {xs : List Int32} : xtI (xTa xs) 171 158 = some (.getfield 224, 3) := x_ins (j := 88) kk171 ia171 rfl
theorem i171_161 {xs : List Int32} : xtI (xTa xs) 171 161 = some (.iadd, 1) := x_ins (j := 89) kk171 ia171 rfl
theorem i171_162 {xs : List Int32} : xtI (xTa xs) 171 162 = some (.invokestatic 212, 3) := x_ins (j := 90) kk171 ia171 rfl
theorem i171_165 {xs : List Int32} : xtI (xTa xs) 171 165 = some (.putfield 252, 3) := x_ins (j := 91) kk171 ia171 rfl
theorem i171_168 {xs : List Int32} : xtI (xTa xs) 171 168 = some (.aload_n 0, 1) := x_ins (j := 92) kk171 ia171 rfl
theorem i171_169 {xs : List Int32} : xtI (xTa xs) 171 169 = some (.getfield 249, 3) := x_ins (j := 93) kk171 ia171 rfl
theorem i171_172 {xs : List Int32} : xtI (xTa xs) 171 172 = some (.aload_n 0, 1) := x_ins (j := 94) kk171 ia171 rfl
theorem i171_173 {xs : List Int32} : xtI (xTa xs) 171 173 = some (.getfield 252, 3) := x_ins (j := 95) kk171 ia171 rfl
theorem i171_176 {xs : List Int32} : xtI (xTa xs) 171 176 = some (.iadd, 1) := x_ins (j := 96) kk171 ia171 rfl
theorem i171_177 {xs : List Int32} : xtI (xTa xs) 171 177 = some (.istore_n 2, 1) := x_ins (j := 97) kk171 ia171 rfl
theorem i171_178 {xs : List Int32} : xtI (xTa xs) 171 178 = some (.aload_n 0, 1) := x_ins (j := 98) kk171 ia171 rfl
theorem i171_179 {xs : List Int32} : xtI (xTa xs) 171 179 = some (.getfield 252, 3) := x_ins (j := 99) kk171 ia171 rfl
theorem i171_182 {xs : List Int32} : xtI (xTa xs) 171 182 = some (.ifCond .eq 11, 3) := x_ins (j := 100) kk171 ia171 rfl
theorem i171_185 {xs : List Int32} : xtI (xTa xs) 171 185 = some (.iload_n 2, 1) := x_ins (j := 101) kk171 ia171 rfl
theorem i171_186 {xs : List Int32} : xtI (xTa xs) 171 186 = some (.aload_n 0, 1) := x_ins (j := 102) kk171 ia171 rfl
theorem i171_187 {xs : List Int32} : xtI (xTa xs) 171 187 = some (.getfield 224, 3) := x_ins (j := 103) kk171 ia171 rfl
theorem i171_190 {xs : List Int32} : xtI (xTa xs) 171 190 = some (.if_icmp .ne 5, 3) := x_ins (j := 104) kk171 ia171 rfl
theorem i171_193 {xs : List Int32} : xtI (xTa xs) 171 193 = some (.iconst (-1), 1) := x_ins (j := 105) kk171 ia171 rfl
theorem i171_194 {xs : List Int32} : xtI (xTa xs) 171 194 = some (.ireturn, 1) := x_ins (j := 106) kk171 ia171 rfl
theorem i171_195 {xs : List Int32} : xtI (xTa xs) 171 195 = some (.aload_n 0, 1) := x_ins (j := 107) kk171 ia171 rfl
theorem i171_196 {xs : List Int32} : xtI (xTa xs) 171 196 = some (.aload_n 0, 1) := x_ins (j := 108) kk171 ia171 rfl
theorem i171_197 {xs : List Int32} : xtI (xTa xs) 171 197 = some (.getfield 249, 3) := x_ins (j := 109) kk171 ia171 rfl
theorem i171_200 {xs : List Int32} : xtI (xTa xs) 171 200 = some (.putfield 238, 3) := x_ins (j := 110) kk171 ia171 rfl
theorem i171_203 {xs : List Int32} : xtI (xTa xs) 171 203 = some (.aload_n 0, 1) := x_ins (j := 111) kk171 ia171 rfl
theorem i171_204 {xs : List Int32} : xtI (xTa xs) 171 204 = some (.aload_n 0, 1) := x_ins (j := 112) kk171 ia171 rfl
theorem i171_205 {xs : List Int32} : xtI (xTa xs) 171 205 = some (.getfield 252, 3) := x_ins (j := 113) kk171 ia171 rfl
theorem i171_208 {xs : List Int32} : xtI (xTa xs) 171 208 = some (.putfield 241, 3) := x_ins (j := 114) kk171 ia171 rfl
theorem i171_211 {xs : List Int32} : xtI (xTa xs) 171 211 = some (.aload_n 0, 1) := x_ins (j := 115) kk171 ia171 rfl
theorem i171_212 {xs : List Int32} : xtI (xTa xs) 171 212 = some (.iload_n 2, 1) := x_ins (j := 116) kk171 ia171 rfl
theorem i171_213 {xs : List Int32} : xtI (xTa xs) 171 213 = some (.invokevirtual 227, 3) := x_ins (j := 117) kk171 ia171 rfl
theorem i171_216 {xs : List Int32} : xtI (xTa xs) 171 216 = some (.bipush 32, 2) := x_ins (j := 118) kk171 ia171 rfl
theorem i171_218 {xs : List Int32} : xtI (xTa xs) 171 218 = some (.if_icmp .ne 88, 3) := x_ins (j := 119) kk171 ia171 rfl
theorem i171_221 {xs : List Int32} : xtI (xTa xs) 171 221 = some (.aload_n 0, 1) := x_ins (j := 120) kk171 ia171 rfl
theorem i171_222 {xs : List Int32} : xtI (xTa xs) 171 222 = some (.aload_n 0, 1) := x_ins (j := 121) kk171 ia171 rfl
theorem i171_223 {xs : List Int32} : xtI (xTa xs) 171 223 = some (.iload_n 2, 1) := x_ins (j := 122) kk171 ia171 rfl
theorem i171_224 {xs : List Int32} : xtI (xTa xs) 171 224 = some (.invokevirtual 255, 3) := x_ins (j := 123) kk171 ia171 rfl
theorem i171_227 {xs : List Int32} : xtI (xTa xs) 171 227 = some (.putfield 238, 3) := x_ins (j := 124) kk171 ia171 rfl
theorem i171_230 {xs : List Int32} : xtI (xTa xs) 171 230 = some (.aload_n 0, 1) := x_ins (j := 125) kk171 ia171 rfl
theorem i171_231 {xs : List Int32} : xtI (xTa xs) 171 231 = some (.getfield 238, 3) := x_ins (j := 126) kk171 ia171 rfl
theorem i171_234 {xs : List Int32} : xtI (xTa xs) 171 234 = some (.istore_n 2, 1) := x_ins (j := 127) kk171 ia171 rfl
theorem i171_235 {xs : List Int32} : xtI (xTa xs) 171 235 = some (.iload_n 2, 1) := x_ins (j := 128) kk171 ia171 rfl
theorem i171_236 {xs : List Int32} : xtI (xTa xs) 171 236 = some (.aload_n 0, 1) := x_ins (j := 129) kk171 ia171 rfl
theorem i171_237 {xs : List Int32} : xtI (xTa xs) 171 237 = some (.getfield 224, 3) := x_ins (j := 130) kk171 ia171 rfl
theorem i171_240 {xs : List Int32} : xtI (xTa xs) 171 240 = some (.if_icmp .ge 29, 3) := x_ins (j := 131) kk171 ia171 rfl
theorem i171_243 {xs : List Int32} : xtI (xTa xs) 171 243 = some (.aload_n 0, 1) := x_ins (j := 132) kk171 ia171 rfl
theorem i171_244 {xs : List Int32} : xtI (xTa xs) 171 244 = some (.iload_n 2, 1) := x_ins (j := 133) kk171 ia171 rfl
theorem i171_245 {xs : List Int32} : xtI (xTa xs) 171 245 = some (.invokevirtual 227, 3) := x_ins (j := 134) kk171 ia171 rfl
theorem i171_248 {xs : List Int32} : xtI (xTa xs) 171 248 = some (.bipush 123, 2) := x_ins (j := 135) kk171 ia171 rfl
theorem i171_250 {xs : List Int32} : xtI (xTa xs) 171 250 = some (.if_icmp .eq 19, 3) := x_ins (j := 136) kk171 ia171 rfl
theorem i171_253 {xs : List Int32} : xtI (xTa xs) 171 253 = some (.aload_n 0, 1) := x_ins (j := 137) kk171 ia171 rfl
theorem i171_254 {xs : List Int32} : xtI (xTa xs) 171 254 = some (.iload_n 2, 1) := x_ins (j := 138) kk171 ia171 rfl
theorem i171_255 {xs : List Int32} : xtI (xTa xs) 171 255 = some (.invokevirtual 227, 3) := x_ins (j := 139) kk171 ia171 rfl
theorem i171_258 {xs : List Int32} : xtI (xTa xs) 171 258 = some (.bipush 125, 2) := x_ins (j := 140) kk171 ia171 rfl
theorem i171_260 {xs : List Int32} : xtI (xTa xs) 171 260 = some (.if_icmp .eq 9, 3) := x_ins (j := 141) kk171 ia171 rfl
theorem i171_263 {xs : List Int32} : xtI (xTa xs) 171 263 = some (.iinc 2 1, 3) := x_ins (j := 142) kk171 ia171 rfl
theorem i171_266 {xs : List Int32} : xtI (xTa xs) 171 266 = some (.goto (-31), 3) := x_ins (j := 143) kk171 ia171 rfl
theorem i171_269 {xs : List Int32} : xtI (xTa xs) 171 269 = some (.aload_n 0, 1) := x_ins (j := 144) kk171 ia171 rfl
theorem i171_270 {xs : List Int32} : xtI (xTa xs) 171 270 = some (.iload_n 2, 1) := x_ins (j := 145) kk171 ia171 rfl
theorem i171_271 {xs : List Int32} : xtI (xTa xs) 171 271 = some (.aload_n 0, 1) := x_ins (j := 146) kk171 ia171 rfl
theorem i171_272 {xs : List Int32} : xtI (xTa xs) 171 272 = some (.getfield 238, 3) := x_ins (j := 147) kk171 ia171 rfl
theorem i171_275 {xs : List Int32} : xtI (xTa xs) 171 275 = some (.isub, 1) := x_ins (j := 148) kk171 ia171 rfl
theorem i171_276 {xs : List Int32} : xtI (xTa xs) 171 276 = some (.putfield 241, 3) := x_ins (j := 149) kk171 ia171 rfl
theorem i171_279 {xs : List Int32} : xtI (xTa xs) 171 279 = some (.aload_n 0, 1) := x_ins (j := 150) kk171 ia171 rfl
theorem i171_280 {xs : List Int32} : xtI (xTa xs) 171 280 = some (.getfield 241, 3) := x_ins (j := 151) kk171 ia171 rfl
theorem i171_283 {xs : List Int32} : xtI (xTa xs) 171 283 = some (.iconst 1, 1) := x_ins (j := 152) kk171 ia171 rfl
theorem i171_284 {xs : List Int32} : xtI (xTa xs) 171 284 = some (.bipush 60, 2) := x_ins (j := 153) kk171 ia171 rfl
theorem i171_286 {xs : List Int32} : xtI (xTa xs) 171 286 = some (.invokestatic 154, 3) := x_ins (j := 154) kk171 ia171 rfl
theorem i171_289 {xs : List Int32} : xtI (xTa xs) 171 289 = some (.ifCond .eq 15, 3) := x_ins (j := 155) kk171 ia171 rfl
theorem i171_292 {xs : List Int32} : xtI (xTa xs) 171 292 = some (.aload_n 0, 1) := x_ins (j := 156) kk171 ia171 rfl
theorem i171_293 {xs : List Int32} : xtI (xTa xs) 171 293 = some (.iload_n 2, 1) := x_ins (j := 157) kk171 ia171 rfl
theorem i171_294 {xs : List Int32} : xtI (xTa xs) 171 294 = some (.iconst 1, 1) := x_ins (j := 158) kk171 ia171 rfl
theorem i171_295 {xs : List Int32} : xtI (xTa xs) 171 295 = some (.isub, 1) := x_ins (j := 159) kk171 ia171 rfl
theorem i171_296 {xs : List Int32} : xtI (xTa xs) 171 296 = some (.invokevirtual 227, 3) := x_ins (j := 160) kk171 ia171 rfl
theorem i171_299 {xs : List Int32} : xtI (xTa xs) 171 299 = some (.bipush 32, 2) := x_ins (j := 161) kk171 ia171 rfl
theorem i171_301 {xs : List Int32} : xtI (xTa xs) 171 301 = some (.if_icmp .ne 5, 3) := x_ins (j := 162) kk171 ia171 rfl
theorem i171_304 {xs : List Int32} : xtI (xTa xs) 171 304 = some (.iconst (-1), 1) := x_ins (j := 163) kk171 ia171 rfl
theorem i171_305 {xs : List Int32} : xtI (xTa xs) 171 305 = some (.ireturn, 1) := x_ins (j := 164) kk171 ia171 rfl
theorem i171_306 {xs : List Int32} : xtI (xTa xs) 171 306 = some (.aload_n 0, 1) := x_ins (j := 165) kk171 ia171 rfl
theorem i171_307 {xs : List Int32} : xtI (xTa xs) 171 307 = some (.iload_n 2, 1) := x_ins (j := 166) kk171 ia171 rfl
theorem i171_308 {xs : List Int32} : xtI (xTa xs) 171 308 = some (.iconst 1, 1) := x_ins (j := 167) kk171 ia171 rfl
theorem i171_309 {xs : List Int32} : xtI (xTa xs) 171 309 = some (.iadd, 1) := x_ins (j := 168) kk171 ia171 rfl
theorem i171_310 {xs : List Int32} : xtI (xTa xs) 171 310 = some (.putfield 244, 3) := x_ins (j := 169) kk171 ia171 rfl
theorem i171_313 {xs : List Int32} : xtI (xTa xs) 171 313 = some (.iload_n 2, 1) := x_ins (j := 170) kk171 ia171 rfl
theorem i171_314 {xs : List Int32} : xtI (xTa xs) 171 314 = some (.aload_n 0, 1) := x_ins (j := 171) kk171 ia171 rfl
theorem i171_315 {xs : List Int32} : xtI (xTa xs) 171 315 = some (.getfield 224, 3) := x_ins (j := 172) kk171 ia171 rfl
theorem i171_318 {xs : List Int32} : xtI (xTa xs) 171 318 = some (.if_icmp .ge 17, 3) := x_ins (j := 173) kk171 ia171 rfl
theorem i171_321 {xs : List Int32} : xtI (xTa xs) 171 321 = some (.aload_n 0, 1) := x_ins (j := 174) kk171 ia171 rfl
theorem i171_322 {xs : List Int32} : xtI (xTa xs) 171 322 = some (.iload_n 2, 1) := x_ins (j := 175) kk171 ia171 rfl
theorem i171_323 {xs : List Int32} : xtI (xTa xs) 171 323 = some (.invokevirtual 227, 3) := x_ins (j := 176) kk171 ia171 rfl
theorem i171_326 {xs : List Int32} : xtI (xTa xs) 171 326 = some (.bipush 125, 2) := x_ins (j := 177) kk171 ia171 rfl
theorem i171_328 {xs : List Int32} : xtI (xTa xs) 171 328 = some (.if_icmp .ne 7, 3) := x_ins (j := 178) kk171 ia171 rfl
theorem i171_331 {xs : List Int32} : xtI (xTa xs) 171 331 = some (.iconst 2, 1) := x_ins (j := 179) kk171 ia171 rfl
theorem i171_332 {xs : List Int32} : xtI (xTa xs) 171 332 = some (.goto 4, 3) := x_ins (j := 180) kk171 ia171 rfl
theorem i171_335 {xs : List Int32} : xtI (xTa xs) 171 335 = some (.iconst (-1), 1) := x_ins (j := 181) kk171 ia171 rfl
theorem i171_336 {xs : List Int32} : xtI (xTa xs) 171 336 = some (.ireturn, 1) := x_ins (j := 182) kk171 ia171 rfl
theorem kk172 : xK0.getD 172 [] = k172 := rfl
set_option maxRecDepth 100000 in
theorem ia172 : (k172.all fun e => decide (k172.lookup e.1 = some e.2)) = true := by decide +kernel
theorem i172_0 {xs : List Int32} : xtI (xTa xs) 172 0 = some (.aload_n 0, 1) := x_ins (j := 0) kk172 ia172 rfl
theorem i172_1 {xs : List Int32} : xtI (xTa xs) 172 1 = some (.iload_n 1, 1) := x_ins (j := 1) kk172 ia172 rfl
theorem i172_2 {xs : List Int32} : xtI (xTa xs) 172 2 = some (.invokevirtual 227, 3) := x_ins (j := 2) kk172 ia172 rfl
theorem i172_5 {xs : List Int32} : xtI (xTa xs) 172 5 = some (.bipush 125, 2) := x_ins (j := 3) kk172 ia172 rfl
theorem i172_7 {xs : List Int32} : xtI (xTa xs) 172 7 = some (.if_icmp .eq 22, 3) := x_ins (j := 4) kk172 ia172 rfl
theorem i172_10 {xs : List Int32} : xtI (xTa xs) 172 10 = some (.aload_n 0, 1) := x_ins (j := 5) kk172 ia172 rfl
theorem i172_11 {xs : List Int32} : xtI (xTa xs) 172 11 = some (.iload_n 1, 1) := x_ins (j := 6) kk172 ia172 rfl
theorem i172_12 {xs : List Int32} : xtI (xTa xs) 172 12 = some (.invokevirtual 227, 3) := x_ins (j := 7) kk172 ia172 rfl
theorem i172_15 {xs : List Int32} : xtI (xTa xs) 172 15 = some (.bipush 123, 2) := x_ins (j := 8) kk172 ia172 rfl
theorem i172_17 {xs : List Int32} : xtI (xTa xs) 172 17 = some (.if_icmp .ne 16, 3) := x_ins (j := 9) kk172 ia172 rfl
theorem i172_20 {xs : List Int32} : xtI (xTa xs) 172 20 = some (.aload_n 0, 1) := x_ins (j := 10) kk172 ia172 rfl
theorem i172_21 {xs : List Int32} : xtI (xTa xs) 172 21 = some (.iload_n 1, 1) := x_ins (j := 11) kk172 ia172 rfl
theorem i172_22 {xs : List Int32} : xtI (xTa xs) 172 22 = some (.invokevirtual 258, 3) := x_ins (j := 12) kk172 ia172 rfl
theorem i172_25 {xs : List Int32} : xtI (xTa xs) 172 25 = some (.iconst (-1), 1) := x_ins (j := 13) kk172 ia172 rfl
theorem i172_26 {xs : List Int32} : xtI (xTa xs) 172 26 = some (.if_icmp .ne 7, 3) := x_ins (j := 14) kk172 ia172 rfl
theorem i172_29 {xs : List Int32} : xtI (xTa xs) 172 29 = some (.iconst 1, 1) := x_ins (j := 15) kk172 ia172 rfl
theorem i172_30 {xs : List Int32} : xtI (xTa xs) 172 30 = some (.goto 4, 3) := x_ins (j := 16) kk172 ia172 rfl
theorem i172_33 {xs : List Int32} : xtI (xTa xs) 172 33 = some (.iconst 0, 1) := x_ins (j := 17) kk172 ia172 rfl
theorem i172_34 {xs : List Int32} : xtI (xTa xs) 172 34 = some (.ireturn, 1) := x_ins (j := 18) kk172 ia172 rfl
theorem kk173 : xK0.getD 173 [] = k173 := rfl
set_option maxRecDepth 100000 in
theorem ia173 : (k173.all fun e => decide (k173.lookup e.1 = some e.2)) = true := by decide +kernel
theorem i173_0 {xs : List Int32} : xtI (xTa xs) 173 0 = some (.sipush 960, 3) := x_ins (j := 0) kk173 ia173 rfl
theorem i173_3 {xs : List Int32} : xtI (xTa xs) 173 3 = some (.aload_n 0, 1) := x_ins (j := 1) kk173 ia173 rfl
theorem i173_4 {xs : List Int32} : xtI (xTa xs) 173 4 = some (.getfield 47, 3) := x_ins (j := 2) kk173 ia173 rfl
theorem i173_7 {xs : List Int32} : xtI (xTa xs) 173 7 = some (.bipush 40, 2) := x_ins (j := 3) kk173 ia173 rfl
theorem i173_9 {xs : List Int32} : xtI (xTa xs) 173 9 = some (.iaload, 1) := x_ins (j := 4) kk173 ia173 rfl
theorem i173_10 {xs : List Int32} : xtI (xTa xs) 173 10 = some (.iadd, 1) := x_ins (j := 5) kk173 ia173 rfl
theorem i173_11 {xs : List Int32} : xtI (xTa xs) 173 11 = some (.istore 4, 2) := x_ins (j := 6) kk173 ia173 rfl
theorem i173_13 {xs : List Int32} : xtI (xTa xs) 173 13 = some (.aload_n 0, 1) := x_ins (j := 7) kk173 ia173 rfl
theorem i173_14 {xs : List Int32} : xtI (xTa xs) 173 14 = some (.getfield 47, 3) := x_ins (j := 8) kk173 ia173 rfl
theorem i173_17 {xs : List Int32} : xtI (xTa xs) 173 17 = some (.bipush 40, 2) := x_ins (j := 9) kk173 ia173 rfl
theorem i173_19 {xs : List Int32} : xtI (xTa xs) 173 19 = some (.dup2, 1) := x_ins (j := 10) kk173 ia173 rfl
theorem i173_20 {xs : List Int32} : xtI (xTa xs) 173 20 = some (.iaload, 1) := x_ins (j := 11) kk173 ia173 rfl
theorem i173_21 {xs : List Int32} : xtI (xTa xs) 173 21 = some (.iconst 1, 1) := x_ins (j := 12) kk173 ia173 rfl
theorem i173_22 {xs : List Int32} : xtI (xTa xs) 173 22 = some (.iadd, 1) := x_ins (j := 13) kk173 ia173 rfl
theorem i173_23 {xs : List Int32} : xtI (xTa xs) 173 23 = some (.iastore, 1) := x_ins (j := 14) kk173 ia173 rfl
theorem i173_24 {xs : List Int32} : xtI (xTa xs) 173 24 = some (.aload_n 0, 1) := x_ins (j := 15) kk173 ia173 rfl
theorem i173_25 {xs : List Int32} : xtI (xTa xs) 173 25 = some (.getfield 53, 3) := x_ins (j := 16) kk173 ia173 rfl
theorem i173_28 {xs : List Int32} : xtI (xTa xs) 173 28 = some (.iload 4, 2) := x_ins (j := 17) kk173 ia173 rfl
theorem i173_30 {xs : List Int32} : xtI (xTa xs) 173 30 = some (.iload_n 1, 1) := x_ins (j := 18) kk173 ia173 rfl
theorem i173_31 {xs : List Int32} : xtI (xTa xs) 173 31 = some (.iastore, 1) := x_ins (j := 19) kk173 ia173 rfl
theorem i173_32 {xs : List Int32} : xtI (xTa xs) 173 32 = some (.aload_n 0, 1) := x_ins (j := 20) kk173 ia173 rfl
theorem i173_33 {xs : List Int32} : xtI (xTa xs) 173 33 = some (.getfield 56, 3) := x_ins (j := 21) kk173 ia173 rfl
theorem i173_36 {xs : List Int32} : xtI (xTa xs) 173 36 = some (.iload 4, 2) := x_ins (j := 22) kk173 ia173 rfl
theorem i173_38 {xs : List Int32} : xtI (xTa xs) 173 38 = some (.iload_n 2, 1) := x_ins (j := 23) kk173 ia173 rfl
theorem i173_39 {xs : List Int32} : xtI (xTa xs) 173 39 = some (.iastore, 1) := x_ins (j := 24) kk173 ia173 rfl
theorem i173_40 {xs : List Int32} : xtI (xTa xs) 173 40 = some (.aload_n 0, 1) := x_ins (j := 25) kk173 ia173 rfl
theorem i173_41 {xs : List Int32} : xtI (xTa xs) 173 41 = some (.getfield 59, 3) := x_ins (j := 26) kk173 ia173 rfl
theorem i173_44 {xs : List Int32} : xtI (xTa xs) 173 44 = some (.iload 4, 2) := x_ins (j := 27) kk173 ia173 rfl
theorem i173_46 {xs : List Int32} : xtI (xTa xs) 173 46 = some (.aload_n 0, 1) := x_ins (j := 28) kk173 ia173 rfl
theorem i173_47 {xs : List Int32} : xtI (xTa xs) 173 47 = some (.getfield 50, 3) := x_ins (j := 29) kk173 ia173 rfl
theorem i173_50 {xs : List Int32} : xtI (xTa xs) 173 50 = some (.bipush 40, 2) := x_ins (j := 30) kk173 ia173 rfl
theorem i173_52 {xs : List Int32} : xtI (xTa xs) 173 52 = some (.iaload, 1) := x_ins (j := 31) kk173 ia173 rfl
theorem i173_53 {xs : List Int32} : xtI (xTa xs) 173 53 = some (.iastore, 1) := x_ins (j := 32) kk173 ia173 rfl
theorem i173_54 {xs : List Int32} : xtI (xTa xs) 173 54 = some (.aload_n 0, 1) := x_ins (j := 33) kk173 ia173 rfl
theorem i173_55 {xs : List Int32} : xtI (xTa xs) 173 55 = some (.getfield 62, 3) := x_ins (j := 34) kk173 ia173 rfl
theorem i173_58 {xs : List Int32} : xtI (xTa xs) 173 58 = some (.iload 4, 2) := x_ins (j := 35) kk173 ia173 rfl
theorem i173_60 {xs : List Int32} : xtI (xTa xs) 173 60 = some (.iconst 0, 1) := x_ins (j := 36) kk173 ia173 rfl
theorem i173_61 {xs : List Int32} : xtI (xTa xs) 173 61 = some (.iastore, 1) := x_ins (j := 37) kk173 ia173 rfl
theorem i173_62 {xs : List Int32} : xtI (xTa xs) 173 62 = some (.aload_n 0, 1) := x_ins (j := 38) kk173 ia173 rfl
theorem i173_63 {xs : List Int32} : xtI (xTa xs) 173 63 = some (.getfield 65, 3) := x_ins (j := 39) kk173 ia173 rfl
theorem i173_66 {xs : List Int32} : xtI (xTa xs) 173 66 = some (.iload 4, 2) := x_ins (j := 40) kk173 ia173 rfl
theorem i173_68 {xs : List Int32} : xtI (xTa xs) 173 68 = some (.iload_n 3, 1) := x_ins (j := 41) kk173 ia173 rfl
theorem i173_69 {xs : List Int32} : xtI (xTa xs) 173 69 = some (.iastore, 1) := x_ins (j := 42) kk173 ia173 rfl
theorem i173_70 {xs : List Int32} : xtI (xTa xs) 173 70 = some (.aload_n 0, 1) := x_ins (j := 43) kk173 ia173 rfl
theorem i173_71 {xs : List Int32} : xtI (xTa xs) 173 71 = some (.getfield 68, 3) := x_ins (j := 44) kk173 ia173 rfl
theorem i173_74 {xs : List Int32} : xtI (xTa xs) 173 74 = some (.iload 4, 2) := x_ins (j := 45) kk173 ia173 rfl
theorem i173_76 {xs : List Int32} : xtI (xTa xs) 173 76 = some (.iconst 0, 1) := x_ins (j := 46) kk173 ia173 rfl
theorem i173_77 {xs : List Int32} : xtI (xTa xs) 173 77 = some (.iastore, 1) := x_ins (j := 47) kk173 ia173 rfl
theorem i173_78 {xs : List Int32} : xtI (xTa xs) 173 78 = some (.aload_n 0, 1) := x_ins (j := 48) kk173 ia173 rfl
theorem i173_79 {xs : List Int32} : xtI (xTa xs) 173 79 = some (.getfield 71, 3) := x_ins (j := 49) kk173 ia173 rfl
theorem i173_82 {xs : List Int32} : xtI (xTa xs) 173 82 = some (.iload 4, 2) := x_ins (j := 50) kk173 ia173 rfl
theorem i173_84 {xs : List Int32} : xtI (xTa xs) 173 84 = some (.iconst 0, 1) := x_ins (j := 51) kk173 ia173 rfl
theorem i173_85 {xs : List Int32} : xtI (xTa xs) 173 85 = some (.iastore, 1) := x_ins (j := 52) kk173 ia173 rfl
theorem i173_86 {xs : List Int32} : xtI (xTa xs) 173 86 = some (.aload_n 0, 1) := x_ins (j := 53) kk173 ia173 rfl
theorem i173_87 {xs : List Int32} : xtI (xTa xs) 173 87 = some (.getfield 74, 3) := x_ins (j := 54) kk173 ia173 rfl
theorem i173_90 {xs : List Int32} : xtI (xTa xs) 173 90 = some (.iload 4, 2) := x_ins (j := 55) kk173 ia173 rfl
theorem i173_92 {xs : List Int32} : xtI (xTa xs) 173 92 = some (.iconst 0, 1) := x_ins (j := 56) kk173 ia173 rfl
theorem i173_93 {xs : List Int32} : xtI (xTa xs) 173 93 = some (.bastore, 1) := x_ins (j := 57) kk173 ia173 rfl
theorem i173_94 {xs : List Int32} : xtI (xTa xs) 173 94 = some (.aload_n 0, 1) := x_ins (j := 58) kk173 ia173 rfl
theorem i173_95 {xs : List Int32} : xtI (xTa xs) 173 95 = some (.iconst (-1), 1) := x_ins (j := 59) kk173 ia173 rfl
theorem i173_96 {xs : List Int32} : xtI (xTa xs) 173 96 = some (.putfield 261, 3) := x_ins (j := 60) kk173 ia173 rfl
theorem i173_99 {xs : List Int32} : xtI (xTa xs) 173 99 = some (.return_, 1) := x_ins (j := 61) kk173 ia173 rfl
theorem kk174 : xK0.getD 174 [] = k174 := rfl
set_option maxRecDepth 100000 in
theorem ia174 : (k174.all fun e => decide (k174.lookup e.1 = some e.2)) = true := by decide +kernel
theorem i174_0 {xs : List Int32} : xtI (xTa xs) 174 0 = some (.sipush 960, 3) := x_ins (j := 0) kk174 ia174 rfl
theorem i174_3 {xs : List Int32} : xtI (xTa xs) 174 3 = some (.aload_n 0, 1) := x_ins (j := 1) kk174 ia174 rfl
theorem i174_4 {xs : List Int32} : xtI (xTa xs) 174 4 = some (.getfield 47, 3) := x_ins (j := 2) kk174 ia174 rfl
theorem i174_7 {xs : List Int32} : xtI (xTa xs) 174 7 = some (.bipush 40, 2) := x_ins (j := 3) kk174 ia174 rfl
theorem i174_9 {xs : List Int32} : xtI (xTa xs) 174 9 = some (.iaload, 1) := x_ins (j := 4) kk174 ia174 rfl
theorem i174_10 {xs : List Int32} : xtI (xTa xs) 174 10 = some (.iadd, 1) := x_ins (j := 5) kk174 ia174 rfl
theorem i174_11 {xs : List Int32} : xtI (xTa xs) 174 11 = some (.iconst 1, 1) := x_ins (j := 6) kk174 ia174 rfl
theorem i174_12 {xs : List Int32} : xtI (xTa xs) 174 12 = some (.isub, 1) := x_ins (j := 7) kk174 ia174 rfl
theorem i174_13 {xs : List Int32} : xtI (xTa xs) 174 13 = some (.ireturn, 1) := x_ins (j := 8) kk174 ia174 rfl
theorem kk175 : xK0.getD 175 [] = k175 := rfl
set_option maxRecDepth 100000 in
theorem ia175 : (k175.all fun e => decide (k175.lookup e.1 = some e.2)) = true := by decide +kernel
theorem i175_0 {xs : List Int32} : xtI (xTa xs) 175 0 = some (.aload_n 0, 1) := x_ins (j := 0) kk175 ia175 rfl
theorem i175_1 {xs : List Int32} : xtI (xTa xs) 175 1 = some (.iload_n 1, 1) := x_ins (j := 1) kk175 ia175 rfl
theorem i175_2 {xs : List Int32} : xtI (xTa xs) 175 2 = some (.invokevirtual 255, 3) := x_ins (j := 2) kk175 ia175 rfl
theorem i175_5 {xs : List Int32} : xtI (xTa xs) 175 5 = some (.istore_n 2, 1) := x_ins (j := 3) kk175 ia175 rfl
theorem i175_6 {xs : List Int32} : xtI (xTa xs) 175 6 = some (.iload_n 2, 1) := x_ins (j := 4) kk175 ia175 rfl
theorem i175_7 {xs : List Int32} : xtI (xTa xs) 175 7 = some (.aload_n 0, 1) := x_ins (j := 5) kk175 ia175 rfl
theorem i175_8 {xs : List Int32} : xtI (xTa xs) 175 8 = some (.getfield 224, 3) := x_ins (j := 6) kk175 ia175 rfl
theorem i175_11 {xs : List Int32} : xtI (xTa xs) 175 11 = some (.if_icmp .ge 61, 3) := x_ins (j := 7) kk175 ia175 rfl
theorem i175_14 {xs : List Int32} : xtI (xTa xs) 175 14 = some (.aload_n 0, 1) := x_ins (j := 8) kk175 ia175 rfl
theorem i175_15 {xs : List Int32} : xtI (xTa xs) 175 15 = some (.getfield 218, 3) := x_ins (j := 9) kk175 ia175 rfl
theorem i175_18 {xs : List Int32} : xtI (xTa xs) 175 18 = some (.ifCond .ne 54, 3) := x_ins (j := 10) kk175 ia175 rfl
theorem i175_21 {xs : List Int32} : xtI (xTa xs) 175 21 = some (.aload_n 0, 1) := x_ins (j := 11) kk175 ia175 rfl
theorem i175_22 {xs : List Int32} : xtI (xTa xs) 175 22 = some (.iload_n 2, 1) := x_ins (j := 12) kk175 ia175 rfl
theorem i175_23 {xs : List Int32} : xtI (xTa xs) 175 23 = some (.invokevirtual 264, 3) := x_ins (j := 13) kk175 ia175 rfl
theorem i175_26 {xs : List Int32} : xtI (xTa xs) 175 26 = some (.ifCond .eq 12, 3) := x_ins (j := 14) kk175 ia175 rfl
theorem i175_29 {xs : List Int32} : xtI (xTa xs) 175 29 = some (.aload_n 0, 1) := x_ins (j := 15) kk175 ia175 rfl
theorem i175_30 {xs : List Int32} : xtI (xTa xs) 175 30 = some (.iconst 2, 1) := x_ins (j := 16) kk175 ia175 rfl
theorem i175_31 {xs : List Int32} : xtI (xTa xs) 175 31 = some (.iload_n 2, 1) := x_ins (j := 17) kk175 ia175 rfl
theorem i175_32 {xs : List Int32} : xtI (xTa xs) 175 32 = some (.invokevirtual 267, 3) := x_ins (j := 18) kk175 ia175 rfl
theorem i175_35 {xs : List Int32} : xtI (xTa xs) 175 35 = some (.goto (-29), 3) := x_ins (j := 19) kk175 ia175 rfl
theorem i175_38 {xs : List Int32} : xtI (xTa xs) 175 38 = some (.aload_n 0, 1) := x_ins (j := 20) kk175 ia175 rfl
theorem i175_39 {xs : List Int32} : xtI (xTa xs) 175 39 = some (.getfield 50, 3) := x_ins (j := 21) kk175 ia175 rfl
theorem i175_42 {xs : List Int32} : xtI (xTa xs) 175 42 = some (.bipush 40, 2) := x_ins (j := 22) kk175 ia175 rfl
theorem i175_44 {xs : List Int32} : xtI (xTa xs) 175 44 = some (.iaload, 1) := x_ins (j := 23) kk175 ia175 rfl
theorem i175_45 {xs : List Int32} : xtI (xTa xs) 175 45 = some (.bipush 120, 2) := x_ins (j := 24) kk175 ia175 rfl
theorem i175_47 {xs : List Int32} : xtI (xTa xs) 175 47 = some (.if_icmp .ne 12, 3) := x_ins (j := 25) kk175 ia175 rfl
theorem i175_50 {xs : List Int32} : xtI (xTa xs) 175 50 = some (.aload_n 0, 1) := x_ins (j := 26) kk175 ia175 rfl
theorem i175_51 {xs : List Int32} : xtI (xTa xs) 175 51 = some (.iconst 4, 1) := x_ins (j := 27) kk175 ia175 rfl
theorem i175_52 {xs : List Int32} : xtI (xTa xs) 175 52 = some (.iload_n 2, 1) := x_ins (j := 28) kk175 ia175 rfl
theorem i175_53 {xs : List Int32} : xtI (xTa xs) 175 53 = some (.invokevirtual 267, 3) := x_ins (j := 29) kk175 ia175 rfl
theorem i175_56 {xs : List Int32} : xtI (xTa xs) 175 56 = some (.goto (-50), 3) := x_ins (j := 30) kk175 ia175 rfl
theorem i175_59 {xs : List Int32} : xtI (xTa xs) 175 59 = some (.aload_n 0, 1) := x_ins (j := 31) kk175 ia175 rfl
theorem i175_60 {xs : List Int32} : xtI (xTa xs) 175 60 = some (.aload_n 0, 1) := x_ins (j := 32) kk175 ia175 rfl
theorem i175_61 {xs : List Int32} : xtI (xTa xs) 175 61 = some (.iload_n 2, 1) := x_ins (j := 33) kk175 ia175 rfl
theorem i175_62 {xs : List Int32} : xtI (xTa xs) 175 62 = some (.invokevirtual 271, 3) := x_ins (j := 34) kk175 ia175 rfl
theorem i175_65 {xs : List Int32} : xtI (xTa xs) 175 65 = some (.invokevirtual 255, 3) := x_ins (j := 35) kk175 ia175 rfl
theorem i175_68 {xs : List Int32} : xtI (xTa xs) 175 68 = some (.istore_n 2, 1) := x_ins (j := 36) kk175 ia175 rfl
theorem i175_69 {xs : List Int32} : xtI (xTa xs) 175 69 = some (.goto (-63), 3) := x_ins (j := 37) kk175 ia175 rfl
theorem i175_72 {xs : List Int32} : xtI (xTa xs) 175 72 = some (.aload_n 0, 1) := x_ins (j := 38) kk175 ia175 rfl
theorem i175_73 {xs : List Int32} : xtI (xTa xs) 175 73 = some (.iconst (-1), 1) := x_ins (j := 39) kk175 ia175 rfl
theorem i175_74 {xs : List Int32} : xtI (xTa xs) 175 74 = some (.putfield 261, 3) := x_ins (j := 40) kk175 ia175 rfl
theorem i175_77 {xs : List Int32} : xtI (xTa xs) 175 77 = some (.return_, 1) := x_ins (j := 41) kk175 ia175 rfl
theorem kk176 : xK0.getD 176 [] = k176 := rfl
set_option maxRecDepth 100000 in
theorem ia176 : (k176.all fun e => decide (k176.lookup e.1 = some e.2)) = true := by decide +kernel
theorem i176_0 {xs : List Int32} : xtI (xTa xs) 176 0 = some (.sipush 4800, 3) := x_ins (j := 0) kk176 ia176 rfl
theorem i176_3 {xs : List Int32} : xtI (xTa xs) 176 3 = some (.aload_n 0, 1) := x_ins (j := 1) kk176 ia176 rfl
theorem i176_4 {xs : List Int32} : xtI (xTa xs) 176 4 = some (.getfield 50, 3) := x_ins (j := 2) kk176 ia176 rfl
theorem i176_7 {xs : List Int32} : xtI (xTa xs) 176 7 = some (.bipush 40, 2) := x_ins (j := 3) kk176 ia176 rfl
theorem i176_9 {xs : List Int32} : xtI (xTa xs) 176 9 = some (.iaload, 1) := x_ins (j := 4) kk176 ia176 rfl
theorem i176_10 {xs : List Int32} : xtI (xTa xs) 176 10 = some (.iadd, 1) := x_ins (j := 5) kk176 ia176 rfl
theorem i176_11 {xs : List Int32} : xtI (xTa xs) 176 11 = some (.istore_n 2, 1) := x_ins (j := 6) kk176 ia176 rfl
theorem i176_12 {xs : List Int32} : xtI (xTa xs) 176 12 = some (.aload_n 0, 1) := x_ins (j := 7) kk176 ia176 rfl
theorem i176_13 {xs : List Int32} : xtI (xTa xs) 176 13 = some (.getfield 50, 3) := x_ins (j := 8) kk176 ia176 rfl
theorem i176_16 {xs : List Int32} : xtI (xTa xs) 176 16 = some (.bipush 40, 2) := x_ins (j := 9) kk176 ia176 rfl
theorem i176_18 {xs : List Int32} : xtI (xTa xs) 176 18 = some (.dup2, 1) := x_ins (j := 10) kk176 ia176 rfl
theorem i176_19 {xs : List Int32} : xtI (xTa xs) 176 19 = some (.iaload, 1) := x_ins (j := 11) kk176 ia176 rfl
theorem i176_20 {xs : List Int32} : xtI (xTa xs) 176 20 = some (.iconst 1, 1) := x_ins (j := 12) kk176 ia176 rfl
theorem i176_21 {xs : List Int32} : xtI (xTa xs) 176 21 = some (.iadd, 1) := x_ins (j := 13) kk176 ia176 rfl
theorem i176_22 {xs : List Int32} : xtI (xTa xs) 176 22 = some (.iastore, 1) := x_ins (j := 14) kk176 ia176 rfl
theorem i176_23 {xs : List Int32} : xtI (xTa xs) 176 23 = some (.aload_n 0, 1) := x_ins (j := 15) kk176 ia176 rfl
theorem i176_24 {xs : List Int32} : xtI (xTa xs) 176 24 = some (.getfield 62, 3) := x_ins (j := 16) kk176 ia176 rfl
theorem i176_27 {xs : List Int32} : xtI (xTa xs) 176 27 = some (.aload_n 0, 1) := x_ins (j := 17) kk176 ia176 rfl
theorem i176_28 {xs : List Int32} : xtI (xTa xs) 176 28 = some (.invokevirtual 274, 3) := x_ins (j := 18) kk176 ia176 rfl
theorem i176_31 {xs : List Int32} : xtI (xTa xs) 176 31 = some (.dup2, 1) := x_ins (j := 19) kk176 ia176 rfl
theorem i176_32 {xs : List Int32} : xtI (xTa xs) 176 32 = some (.iaload, 1) := x_ins (j := 20) kk176 ia176 rfl
theorem i176_33 {xs : List Int32} : xtI (xTa xs) 176 33 = some (.iconst 1, 1) := x_ins (j := 21) kk176 ia176 rfl
theorem i176_34 {xs : List Int32} : xtI (xTa xs) 176 34 = some (.iadd, 1) := x_ins (j := 22) kk176 ia176 rfl
theorem i176_35 {xs : List Int32} : xtI (xTa xs) 176 35 = some (.iastore, 1) := x_ins (j := 23) kk176 ia176 rfl
theorem i176_36 {xs : List Int32} : xtI (xTa xs) 176 36 = some (.aload_n 0, 1) := x_ins (j := 24) kk176 ia176 rfl
theorem i176_37 {xs : List Int32} : xtI (xTa xs) 176 37 = some (.getfield 80, 3) := x_ins (j := 25) kk176 ia176 rfl
theorem i176_40 {xs : List Int32} : xtI (xTa xs) 176 40 = some (.iload_n 2, 1) := x_ins (j := 26) kk176 ia176 rfl
theorem i176_41 {xs : List Int32} : xtI (xTa xs) 176 41 = some (.iload_n 1, 1) := x_ins (j := 27) kk176 ia176 rfl
theorem i176_42 {xs : List Int32} : xtI (xTa xs) 176 42 = some (.iastore, 1) := x_ins (j := 28) kk176 ia176 rfl
theorem i176_43 {xs : List Int32} : xtI (xTa xs) 176 43 = some (.aload_n 0, 1) := x_ins (j := 29) kk176 ia176 rfl
theorem i176_44 {xs : List Int32} : xtI (xTa xs) 176 44 = some (.getfield 89, 3) := x_ins (j := 30) kk176 ia176 rfl
theorem i176_47 {xs : List Int32} : xtI (xTa xs) 176 47 = some (.iload_n 2, 1) := x_ins (j := 31) kk176 ia176 rfl
theorem i176_48 {xs : List Int32} : xtI (xTa xs) 176 48 = some (.aload_n 0, 1) := x_ins (j := 32) kk176 ia176 rfl
theorem i176_49 {xs : List Int32} : xtI (xTa xs) 176 49 = some (.getfield 261, 3) := x_ins (j := 33) kk176 ia176 rfl
theorem i176_52 {xs : List Int32} : xtI (xTa xs) 176 52 = some (.iload_n 1, 1) := x_ins (j := 34) kk176 ia176 rfl
theorem i176_53 {xs : List Int32} : xtI (xTa xs) 176 53 = some (.if_icmp .ne 7, 3) := x_ins (j := 35) kk176 ia176 rfl
theorem i176_56 {xs : List Int32} : xtI (xTa xs) 176 56 = some (.iconst 1, 1) := x_ins (j := 36) kk176 ia176 rfl
theorem i176_57 {xs : List Int32} : xtI (xTa xs) 176 57 = some (.goto 4, 3) := x_ins (j := 37) kk176 ia176 rfl
theorem i176_60 {xs : List Int32} : xtI (xTa xs) 176 60 = some (.iconst 0, 1) := x_ins (j := 38) kk176 ia176 rfl
theorem i176_61 {xs : List Int32} : xtI (xTa xs) 176 61 = some (.bastore, 1) := x_ins (j := 39) kk176 ia176 rfl
theorem i176_62 {xs : List Int32} : xtI (xTa xs) 176 62 = some (.aload_n 0, 1) := x_ins (j := 40) kk176 ia176 rfl
theorem i176_63 {xs : List Int32} : xtI (xTa xs) 176 63 = some (.getfield 92, 3) := x_ins (j := 41) kk176 ia176 rfl
theorem i176_66 {xs : List Int32} : xtI (xTa xs) 176 66 = some (.iload_n 2, 1) := x_ins (j := 42) kk176 ia176 rfl
theorem i176_67 {xs : List Int32} : xtI (xTa xs) 176 67 = some (.iconst 0, 1) := x_ins (j := 43) kk176 ia176 rfl
theorem i176_68 {xs : List Int32} : xtI (xTa xs) 176 68 = some (.iastore, 1) := x_ins (j := 44) kk176 ia176 rfl
theorem i176_69 {xs : List Int32} : xtI (xTa xs) 176 69 = some (.aload_n 0, 1) := x_ins (j := 45) kk176 ia176 rfl
theorem i176_70 {xs : List Int32} : xtI (xTa xs) 176 70 = some (.getfield 95, 3) := x_ins (j := 46) kk176 ia176 rfl
theorem i176_73 {xs : List Int32} : xtI (xTa xs) 176 73 = some (.iload_n 2, 1) := x_ins (j := 47) kk176 ia176 rfl
theorem i176_74 {xs : List Int32} : xtI (xTa xs) 176 74 = some (.iconst 0, 1) := x_ins (j := 48) kk176 ia176 rfl
theorem i176_75 {xs : List Int32} : xtI (xTa xs) 176 75 = some (.iastore, 1) := x_ins (j := 49) kk176 ia176 rfl
theorem i176_76 {xs : List Int32} : xtI (xTa xs) 176 76 = some (.aload_n 0, 1) := x_ins (j := 50) kk176 ia176 rfl
theorem i176_77 {xs : List Int32} : xtI (xTa xs) 176 77 = some (.iload_n 1, 1) := x_ins (j := 51) kk176 ia176 rfl
theorem i176_78 {xs : List Int32} : xtI (xTa xs) 176 78 = some (.invokevirtual 227, 3) := x_ins (j := 52) kk176 ia176 rfl
theorem i176_81 {xs : List Int32} : xtI (xTa xs) 176 81 = some (.bipush 123, 2) := x_ins (j := 53) kk176 ia176 rfl
theorem i176_83 {xs : List Int32} : xtI (xTa xs) 176 83 = some (.if_icmp .ne 55, 3) := x_ins (j := 54) kk176 ia176 rfl
theorem i176_86 {xs : List Int32} : xtI (xTa xs) 176 86 = some (.aload_n 0, 1) := x_ins (j := 55) kk176 ia176 rfl
theorem i176_87 {xs : List Int32} : xtI (xTa xs) 176 87 = some (.getfield 77, 3) := x_ins (j := 56) kk176 ia176 rfl
theorem i176_90 {xs : List Int32} : xtI (xTa xs) 176 90 = some (.iload_n 2, 1) := x_ins (j := 57) kk176 ia176 rfl
theorem i176_91 {xs : List Int32} : xtI (xTa xs) 176 91 = some (.aload_n 0, 1) := x_ins (j := 58) kk176 ia176 rfl
theorem i176_92 {xs : List Int32} : xtI (xTa xs) 176 92 = some (.iload_n 1, 1) := x_ins (j := 59) kk176 ia176 rfl
theorem i176_93 {xs : List Int32} : xtI (xTa xs) 176 93 = some (.invokevirtual 258, 3) := x_ins (j := 60) kk176 ia176 rfl
theorem i176_96 {xs : List Int32} : xtI (xTa xs) 176 96 = some (.iastore, 1) := x_ins (j := 61) kk176 ia176 rfl
theorem i176_97 {xs : List Int32} : xtI (xTa xs) 176 97 = some (.aload_n 0, 1) := x_ins (j := 62) kk176 ia176 rfl
theorem i176_98 {xs : List Int32} : xtI (xTa xs) 176 98 = some (.aload_n 0, 1) := x_ins (j := 63) kk176 ia176 rfl
theorem i176_99 {xs : List Int32} : xtI (xTa xs) 176 99 = some (.getfield 244, 3) := x_ins (j := 64) kk176 ia176 rfl
theorem i176_102 {xs : List Int32} : xtI (xTa xs) 176 102 = some (.putfield 261, 3) := x_ins (j := 65) kk176 ia176 rfl
theorem i176_105 {xs : List Int32} : xtI (xTa xs) 176 105 = some (.aload_n 0, 1) := x_ins (j := 66) kk176 ia176 rfl
theorem i176_106 {xs : List Int32} : xtI (xTa xs) 176 106 = some (.getfield 77, 3) := x_ins (j := 67) kk176 ia176 rfl
theorem i176_109 {xs : List Int32} : xtI (xTa xs) 176 109 = some (.iload_n 2, 1) := x_ins (j := 68) kk176 ia176 rfl
theorem i176_110 {xs : List Int32} : xtI (xTa xs) 176 110 = some (.iaload, 1) := x_ins (j := 69) kk176 ia176 rfl
theorem i176_111 {xs : List Int32} : xtI (xTa xs) 176 111 = some (.iconst 2, 1) := x_ins (j := 70) kk176 ia176 rfl
theorem i176_112 {xs : List Int32} : xtI (xTa xs) 176 112 = some (.if_icmp .ne 96, 3) := x_ins (j := 71) kk176 ia176 rfl
theorem i176_115 {xs : List Int32} : xtI (xTa xs) 176 115 = some (.aload_n 0, 1) := x_ins (j := 72) kk176 ia176 rfl
theorem i176_116 {xs : List Int32} : xtI (xTa xs) 176 116 = some (.getfield 92, 3) := x_ins (j := 73) kk176 ia176 rfl
theorem i176_119 {xs : List Int32} : xtI (xTa xs) 176 119 = some (.iload_n 2, 1) := x_ins (j := 74) kk176 ia176 rfl
theorem i176_120 {xs : List Int32} : xtI (xTa xs) 176 120 = some (.aload_n 0, 1) := x_ins (j := 75) kk176 ia176 rfl
theorem i176_121 {xs : List Int32} : xtI (xTa xs) 176 121 = some (.getfield 249, 3) := x_ins (j := 76) kk176 ia176 rfl
theorem i176_124 {xs : List Int32} : xtI (xTa xs) 176 124 = some (.iastore, 1) := x_ins (j := 77) kk176 ia176 rfl
theorem i176_125 {xs : List Int32} : xtI (xTa xs) 176 125 = some (.aload_n 0, 1) := x_ins (j := 78) kk176 ia176 rfl
theorem i176_126 {xs : List Int32} : xtI (xTa xs) 176 126 = some (.getfield 95, 3) := x_ins (j := 79) kk176 ia176 rfl
theorem i176_129 {xs : List Int32} : xtI (xTa xs) 176 129 = some (.iload_n 2, 1) := x_ins (j := 80) kk176 ia176 rfl
theorem i176_130 {xs : List Int32} : xtI (xTa xs) 176 130 = some (.aload_n 0, 1) := x_ins (j := 81) kk176 ia176 rfl
theorem i176_131 {xs : List Int32} : xtI (xTa xs) 176 131 = some (.getfield 252, 3) := x_ins (j := 82) kk176 ia176 rfl
theorem i176_134 {xs : List Int32} : xtI (xTa xs) 176 134 = some (.iastore, 1) := x_ins (j := 83) kk176 ia176 rfl
theorem i176_135 {xs : List Int32} : xtI (xTa xs) 176 135 = some (.goto 73, 3) := x_ins (j := 84) kk176 ia176 rfl
theorem i176_138 {xs : List Int32} : xtI (xTa xs) 176 138 = some (.iload_n 1, 1) := x_ins (j := 85) kk176 ia176 rfl
theorem i176_139 {xs : List Int32} : xtI (xTa xs) 176 139 = some (.istore_n 3, 1) := x_ins (j := 86) kk176 ia176 rfl
theorem i176_140 {xs : List Int32} : xtI (xTa xs) 176 140 = some (.iload_n 3, 1) := x_ins (j := 87) kk176 ia176 rfl
theorem i176_141 {xs : List Int32} : xtI (xTa xs) 176 141 = some (.aload_n 0, 1) := x_ins (j := 88) kk176 ia176 rfl
theorem i176_142 {xs : List Int32} : xtI (xTa xs) 176 142 = some (.getfield 224, 3) := x_ins (j := 89) kk176 ia176 rfl
theorem i176_145 {xs : List Int32} : xtI (xTa xs) 176 145 = some (.if_icmp .ge 39, 3) := x_ins (j := 90) kk176 ia176 rfl
theorem i176_148 {xs : List Int32} : xtI (xTa xs) 176 148 = some (.aload_n 0, 1) := x_ins (j := 91) kk176 ia176 rfl
theorem i176_149 {xs : List Int32} : xtI (xTa xs) 176 149 = some (.iload_n 3, 1) := x_ins (j := 92) kk176 ia176 rfl
theorem i176_150 {xs : List Int32} : xtI (xTa xs) 176 150 = some (.invokevirtual 227, 3) := x_ins (j := 93) kk176 ia176 rfl
theorem i176_153 {xs : List Int32} : xtI (xTa xs) 176 153 = some (.bipush 32, 2) := x_ins (j := 94) kk176 ia176 rfl
theorem i176_155 {xs : List Int32} : xtI (xTa xs) 176 155 = some (.if_icmp .eq 29, 3) := x_ins (j := 95) kk176 ia176 rfl
theorem i176_158 {xs : List Int32} : xtI (xTa xs) 176 158 = some (.aload_n 0, 1) := x_ins (j := 96) kk176 ia176 rfl
theorem i176_159 {xs : List Int32} : xtI (xTa xs) 176 159 = some (.iload_n 3, 1) := x_ins (j := 97) kk176 ia176 rfl
theorem i176_160 {xs : List Int32} : xtI (xTa xs) 176 160 = some (.invokevirtual 227, 3) := x_ins (j := 98) kk176 ia176 rfl
theorem i176_163 {xs : List Int32} : xtI (xTa xs) 176 163 = some (.bipush 123, 2) := x_ins (j := 99) kk176 ia176 rfl
theorem i176_165 {xs : List Int32} : xtI (xTa xs) 176 165 = some (.if_icmp .eq 19, 3) := x_ins (j := 100) kk176 ia176 rfl
theorem i176_168 {xs : List Int32} : xtI (xTa xs) 176 168 = some (.aload_n 0, 1) := x_ins (j := 101) kk176 ia176 rfl
theorem i176_169 {xs : List Int32} : xtI (xTa xs) 176 169 = some (.iload_n 3, 1) := x_ins (j := 102) kk176 ia176 rfl
theorem i176_170 {xs : List Int32} : xtI (xTa xs) 176 170 = some (.invokevirtual 227, 3) := x_ins (j := 103) kk176 ia176 rfl
theorem i176_173 {xs : List Int32} : xtI (xTa xs) 176 173 = some (.bipush 125, 2) := x_ins (j := 104) kk176 ia176 rfl
theorem i176_175 {xs : List Int32} : xtI (xTa xs) 176 175 = some (.if_icmp .eq 9, 3) := x_ins (j := 105) kk176 ia176 rfl
theorem i176_178 {xs : List Int32} : xtI (xTa xs) 176 178 = some (.iinc 3 1, 3) := x_ins (j := 106) kk176 ia176 rfl
theorem i176_181 {xs : List Int32} : xtI (xTa xs) 176 181 = some (.goto (-41), 3) := x_ins (j := 107) kk176 ia176 rfl
theorem i176_184 {xs : List Int32} : xtI (xTa xs) 176 184 = some (.aload_n 0, 1) := x_ins (j := 108) kk176 ia176 rfl
theorem i176_185 {xs : List Int32} : xtI (xTa xs) 176 185 = some (.getfield 77, 3) := x_ins (j := 109) kk176 ia176 rfl
theorem i176_188 {xs : List Int32} : xtI (xTa xs) 176 188 = some (.iload_n 2, 1) := x_ins (j := 110) kk176 ia176 rfl
theorem i176_189 {xs : List Int32} : xtI (xTa xs) 176 189 = some (.iconst 0, 1) := x_ins (j := 111) kk176 ia176 rfl
theorem i176_190 {xs : List Int32} : xtI (xTa xs) 176 190 = some (.iastore, 1) := x_ins (j := 112) kk176 ia176 rfl
theorem i176_191 {xs : List Int32} : xtI (xTa xs) 176 191 = some (.aload_n 0, 1) := x_ins (j := 113) kk176 ia176 rfl
theorem i176_192 {xs : List Int32} : xtI (xTa xs) 176 192 = some (.iload_n 1, 1) := x_ins (j := 114) kk176 ia176 rfl
theorem i176_193 {xs : List Int32} : xtI (xTa xs) 176 193 = some (.putfield 238, 3) := x_ins (j := 115) kk176 ia176 rfl
theorem i176_196 {xs : List Int32} : xtI (xTa xs) 176 196 = some (.aload_n 0, 1) := x_ins (j := 116) kk176 ia176 rfl
theorem i176_197 {xs : List Int32} : xtI (xTa xs) 176 197 = some (.iload_n 3, 1) := x_ins (j := 117) kk176 ia176 rfl
theorem i176_198 {xs : List Int32} : xtI (xTa xs) 176 198 = some (.iload_n 1, 1) := x_ins (j := 118) kk176 ia176 rfl
theorem i176_199 {xs : List Int32} : xtI (xTa xs) 176 199 = some (.isub, 1) := x_ins (j := 119) kk176 ia176 rfl
theorem i176_200 {xs : List Int32} : xtI (xTa xs) 176 200 = some (.putfield 241, 3) := x_ins (j := 120) kk176 ia176 rfl
theorem i176_203 {xs : List Int32} : xtI (xTa xs) 176 203 = some (.aload_n 0, 1) := x_ins (j := 121) kk176 ia176 rfl
theorem i176_204 {xs : List Int32} : xtI (xTa xs) 176 204 = some (.iload_n 3, 1) := x_ins (j := 122) kk176 ia176 rfl
theorem i176_205 {xs : List Int32} : xtI (xTa xs) 176 205 = some (.putfield 261, 3) := x_ins (j := 123) kk176 ia176 rfl
theorem i176_208 {xs : List Int32} : xtI (xTa xs) 176 208 = some (.aload_n 0, 1) := x_ins (j := 124) kk176 ia176 rfl
theorem i176_209 {xs : List Int32} : xtI (xTa xs) 176 209 = some (.getfield 83, 3) := x_ins (j := 125) kk176 ia176 rfl
theorem i176_212 {xs : List Int32} : xtI (xTa xs) 176 212 = some (.iload_n 2, 1) := x_ins (j := 126) kk176 ia176 rfl
theorem i176_213 {xs : List Int32} : xtI (xTa xs) 176 213 = some (.aload_n 0, 1) := x_ins (j := 127) kk176 ia176 rfl
theorem i176_214 {xs : List Int32} : xtI (xTa xs) 176 214 = some (.getfield 238, 3) := x_ins (j := 128) kk176 ia176 rfl
theorem i176_217 {xs : List Int32} : xtI (xTa xs) 176 217 = some (.iastore, 1) := x_ins (j := 129) kk176 ia176 rfl
theorem i176_218 {xs : List Int32} : xtI (xTa xs) 176 218 = some (.aload_n 0, 1) := x_ins (j := 130) kk176 ia176 rfl
theorem i176_219 {xs : List Int32} : xtI (xTa xs) 176 219 = some (.getfield 86, 3) := x_ins (j := 131) kk176 ia176 rfl
theorem i176_222 {xs : List Int32} : xtI (xTa xs) 176 222 = some (.iload_n 2, 1) := x_ins (j := 132) kk176 ia176 rfl
theorem i176_223 {xs : List Int32} : xtI (xTa xs) 176 223 = some (.aload_n 0, 1) := x_ins (j := 133) kk176 ia176 rfl
theorem i176_224 {xs : List Int32} : xtI (xTa xs) 176 224 = some (.getfield 241, 3) := x_ins (j := 134) kk176 ia176 rfl
theorem i176_227 {xs : List Int32} : xtI (xTa xs) 176 227 = some (.iastore, 1) := x_ins (j := 135) kk176 ia176 rfl
theorem i176_228 {xs : List Int32} : xtI (xTa xs) 176 228 = some (.aload_n 0, 1) := x_ins (j := 136) kk176 ia176 rfl
theorem i176_229 {xs : List Int32} : xtI (xTa xs) 176 229 = some (.getfield 261, 3) := x_ins (j := 137) kk176 ia176 rfl
theorem i176_232 {xs : List Int32} : xtI (xTa xs) 176 232 = some (.ireturn, 1) := x_ins (j := 138) kk176 ia176 rfl
theorem kk177 : xK0.getD 177 [] = k177 := rfl
set_option maxRecDepth 100000 in
theorem ia177 : (k177.all fun e => decide (k177.lookup e.1 = some e.2)) = true := by decide +kernel
theorem i177_0 {xs : List Int32} : xtI (xTa xs) 177 0 = some (.aload_n 0, 1) := x_ins (j := 0) kk177 ia177 rfl
theorem i177_1 {xs : List Int32} : xtI (xTa xs) 177 1 = some (.iconst 0, 1) := x_ins (j := 1) kk177 ia177 rfl
theorem i177_2 {xs : List Int32} : xtI (xTa xs) 177 2 = some (.putfield 218, 3) := x_ins (j := 2) kk177 ia177 rfl
theorem i177_5 {xs : List Int32} : xtI (xTa xs) 177 5 = some (.aload_n 0, 1) := x_ins (j := 3) kk177 ia177 rfl
theorem i177_6 {xs : List Int32} : xtI (xTa xs) 177 6 = some (.getfield 47, 3) := x_ins (j := 4) kk177 ia177 rfl
theorem i177_9 {xs : List Int32} : xtI (xTa xs) 177 9 = some (.bipush 40, 2) := x_ins (j := 5) kk177 ia177 rfl
theorem i177_11 {xs : List Int32} : xtI (xTa xs) 177 11 = some (.iconst 0, 1) := x_ins (j := 6) kk177 ia177 rfl
theorem i177_12 {xs : List Int32} : xtI (xTa xs) 177 12 = some (.iastore, 1) := x_ins (j := 7) kk177 ia177 rfl
theorem i177_13 {xs : List Int32} : xtI (xTa xs) 177 13 = some (.aload_n 0, 1) := x_ins (j := 8) kk177 ia177 rfl
theorem i177_14 {xs : List Int32} : xtI (xTa xs) 177 14 = some (.getfield 50, 3) := x_ins (j := 9) kk177 ia177 rfl
theorem i177_17 {xs : List Int32} : xtI (xTa xs) 177 17 = some (.bipush 40, 2) := x_ins (j := 10) kk177 ia177 rfl
theorem i177_19 {xs : List Int32} : xtI (xTa xs) 177 19 = some (.iconst 0, 1) := x_ins (j := 11) kk177 ia177 rfl
theorem i177_20 {xs : List Int32} : xtI (xTa xs) 177 20 = some (.iastore, 1) := x_ins (j := 12) kk177 ia177 rfl
theorem i177_21 {xs : List Int32} : xtI (xTa xs) 177 21 = some (.aload_n 0, 1) := x_ins (j := 13) kk177 ia177 rfl
theorem i177_22 {xs : List Int32} : xtI (xTa xs) 177 22 = some (.iconst 0, 1) := x_ins (j := 14) kk177 ia177 rfl
theorem i177_23 {xs : List Int32} : xtI (xTa xs) 177 23 = some (.putfield 278, 3) := x_ins (j := 15) kk177 ia177 rfl
theorem i177_26 {xs : List Int32} : xtI (xTa xs) 177 26 = some (.aload_n 0, 1) := x_ins (j := 16) kk177 ia177 rfl
theorem i177_27 {xs : List Int32} : xtI (xTa xs) 177 27 = some (.iconst 1, 1) := x_ins (j := 17) kk177 ia177 rfl
theorem i177_28 {xs : List Int32} : xtI (xTa xs) 177 28 = some (.putfield 282, 3) := x_ins (j := 18) kk177 ia177 rfl
theorem i177_31 {xs : List Int32} : xtI (xTa xs) 177 31 = some (.iconst 0, 1) := x_ins (j := 19) kk177 ia177 rfl
theorem i177_32 {xs : List Int32} : xtI (xTa xs) 177 32 = some (.istore_n 2, 1) := x_ins (j := 20) kk177 ia177 rfl
theorem i177_33 {xs : List Int32} : xtI (xTa xs) 177 33 = some (.iload_n 2, 1) := x_ins (j := 21) kk177 ia177 rfl
theorem i177_34 {xs : List Int32} : xtI (xTa xs) 177 34 = some (.iload_n 1, 1) := x_ins (j := 22) kk177 ia177 rfl
theorem i177_35 {xs : List Int32} : xtI (xTa xs) 177 35 = some (.if_icmp .ge 47, 3) := x_ins (j := 23) kk177 ia177 rfl
theorem i177_38 {xs : List Int32} : xtI (xTa xs) 177 38 = some (.aload_n 0, 1) := x_ins (j := 24) kk177 ia177 rfl
theorem i177_39 {xs : List Int32} : xtI (xTa xs) 177 39 = some (.getfield 218, 3) := x_ins (j := 25) kk177 ia177 rfl
theorem i177_42 {xs : List Int32} : xtI (xTa xs) 177 42 = some (.ifCond .ne 40, 3) := x_ins (j := 26) kk177 ia177 rfl
theorem i177_45 {xs : List Int32} : xtI (xTa xs) 177 45 = some (.aload_n 0, 1) := x_ins (j := 27) kk177 ia177 rfl
theorem i177_46 {xs : List Int32} : xtI (xTa xs) 177 46 = some (.iload_n 2, 1) := x_ins (j := 28) kk177 ia177 rfl
theorem i177_47 {xs : List Int32} : xtI (xTa xs) 177 47 = some (.invokevirtual 227, 3) := x_ins (j := 29) kk177 ia177 rfl
theorem i177_50 {xs : List Int32} : xtI (xTa xs) 177 50 = some (.bipush 10, 2) := x_ins (j := 30) kk177 ia177 rfl
theorem i177_52 {xs : List Int32} : xtI (xTa xs) 177 52 = some (.if_icmp .eq 24, 3) := x_ins (j := 31) kk177 ia177 rfl
theorem i177_55 {xs : List Int32} : xtI (xTa xs) 177 55 = some (.aload_n 0, 1) := x_ins (j := 32) kk177 ia177 rfl
theorem i177_56 {xs : List Int32} : xtI (xTa xs) 177 56 = some (.iload_n 2, 1) := x_ins (j := 33) kk177 ia177 rfl
theorem i177_57 {xs : List Int32} : xtI (xTa xs) 177 57 = some (.invokevirtual 227, 3) := x_ins (j := 34) kk177 ia177 rfl
theorem i177_60 {xs : List Int32} : xtI (xTa xs) 177 60 = some (.bipush 32, 2) := x_ins (j := 35) kk177 ia177 rfl
theorem i177_62 {xs : List Int32} : xtI (xTa xs) 177 62 = some (.bipush 126, 2) := x_ins (j := 36) kk177 ia177 rfl
theorem i177_64 {xs : List Int32} : xtI (xTa xs) 177 64 = some (.invokestatic 154, 3) := x_ins (j := 37) kk177 ia177 rfl
theorem i177_67 {xs : List Int32} : xtI (xTa xs) 177 67 = some (.ifCond .ne 9, 3) := x_ins (j := 38) kk177 ia177 rfl
theorem i177_70 {xs : List Int32} : xtI (xTa xs) 177 70 = some (.aload_n 0, 1) := x_ins (j := 39) kk177 ia177 rfl
theorem i177_71 {xs : List Int32} : xtI (xTa xs) 177 71 = some (.iconst 1, 1) := x_ins (j := 40) kk177 ia177 rfl
theorem i177_72 {xs : List Int32} : xtI (xTa xs) 177 72 = some (.iload_n 2, 1) := x_ins (j := 41) kk177 ia177 rfl
theorem i177_73 {xs : List Int32} : xtI (xTa xs) 177 73 = some (.invokevirtual 267, 3) := x_ins (j := 42) kk177 ia177 rfl
theorem i177_76 {xs : List Int32} : xtI (xTa xs) 177 76 = some (.iinc 2 1, 3) := x_ins (j := 43) kk177 ia177 rfl
theorem i177_79 {xs : List Int32} : xtI (xTa xs) 177 79 = some (.goto (-46), 3) := x_ins (j := 44) kk177 ia177 rfl
theorem i177_82 {xs : List Int32} : xtI (xTa xs) 177 82 = some (.iconst 0, 1) := x_ins (j := 45) kk177 ia177 rfl
theorem i177_83 {xs : List Int32} : xtI (xTa xs) 177 83 = some (.istore_n 2, 1) := x_ins (j := 46) kk177 ia177 rfl
theorem i177_84 {xs : List Int32} : xtI (xTa xs) 177 84 = some (.iload_n 2, 1) := x_ins (j := 47) kk177 ia177 rfl
theorem i177_85 {xs : List Int32} : xtI (xTa xs) 177 85 = some (.iload_n 1, 1) := x_ins (j := 48) kk177 ia177 rfl
theorem i177_86 {xs : List Int32} : xtI (xTa xs) 177 86 = some (.if_icmp .ge 112, 3) := x_ins (j := 49) kk177 ia177 rfl
theorem i177_89 {xs : List Int32} : xtI (xTa xs) 177 89 = some (.aload_n 0, 1) := x_ins (j := 50) kk177 ia177 rfl
theorem i177_90 {xs : List Int32} : xtI (xTa xs) 177 90 = some (.getfield 218, 3) := x_ins (j := 51) kk177 ia177 rfl
theorem i177_93 {xs : List Int32} : xtI (xTa xs) 177 93 = some (.ifCond .ne 105, 3) := x_ins (j := 52) kk177 ia177 rfl
theorem i177_96 {xs : List Int32} : xtI (xTa xs) 177 96 = some (.aload_n 0, 1) := x_ins (j := 53) kk177 ia177 rfl
theorem i177_97 {xs : List Int32} : xtI (xTa xs) 177 97 = some (.aload_n 0, 1) := x_ins (j := 54) kk177 ia177 rfl
theorem i177_98 {xs : List Int32} : xtI (xTa xs) 177 98 = some (.iload_n 2, 1) := x_ins (j := 55) kk177 ia177 rfl
theorem i177_99 {xs : List Int32} : xtI (xTa xs) 177 99 = some (.iload_n 1, 1) := x_ins (j := 56) kk177 ia177 rfl
theorem i177_100 {xs : List Int32} : xtI (xTa xs) 177 100 = some (.invokevirtual 285, 3) := x_ins (j := 57) kk177 ia177 rfl
theorem i177_103 {xs : List Int32} : xtI (xTa xs) 177 103 = some (.putfield 224, 3) := x_ins (j := 58) kk177 ia177 rfl
theorem i177_106 {xs : List Int32} : xtI (xTa xs) 177 106 = some (.aload_n 0, 1) := x_ins (j := 59) kk177 ia177 rfl
theorem i177_107 {xs : List Int32} : xtI (xTa xs) 177 107 = some (.iload_n 2, 1) := x_ins (j := 60) kk177 ia177 rfl
theorem i177_108 {xs : List Int32} : xtI (xTa xs) 177 108 = some (.invokevirtual 255, 3) := x_ins (j := 61) kk177 ia177 rfl
theorem i177_111 {xs : List Int32} : xtI (xTa xs) 177 111 = some (.istore_n 3, 1) := x_ins (j := 62) kk177 ia177 rfl
theorem i177_112 {xs : List Int32} : xtI (xTa xs) 177 112 = some (.iload_n 3, 1) := x_ins (j := 63) kk177 ia177 rfl
theorem i177_113 {xs : List Int32} : xtI (xTa xs) 177 113 = some (.aload_n 0, 1) := x_ins (j := 64) kk177 ia177 rfl
theorem i177_114 {xs : List Int32} : xtI (xTa xs) 177 114 = some (.getfield 224, 3) := x_ins (j := 65) kk177 ia177 rfl
theorem i177_117 {xs : List Int32} : xtI (xTa xs) 177 117 = some (.if_icmp .ne 11, 3) := x_ins (j := 66) kk177 ia177 rfl
theorem i177_120 {xs : List Int32} : xtI (xTa xs) 177 120 = some (.aload_n 0, 1) := x_ins (j := 67) kk177 ia177 rfl
theorem i177_121 {xs : List Int32} : xtI (xTa xs) 177 121 = some (.iconst 1, 1) := x_ins (j := 68) kk177 ia177 rfl
theorem i177_122 {xs : List Int32} : xtI (xTa xs) 177 122 = some (.putfield 282, 3) := x_ins (j := 69) kk177 ia177 rfl
theorem i177_125 {xs : List Int32} : xtI (xTa xs) 177 125 = some (.goto 46, 3) := x_ins (j := 70) kk177 ia177 rfl
theorem i177_128 {xs : List Int32} : xtI (xTa xs) 177 128 = some (.aload_n 0, 1) := x_ins (j := 71) kk177 ia177 rfl
theorem i177_129 {xs : List Int32} : xtI (xTa xs) 177 129 = some (.iload_n 3, 1) := x_ins (j := 72) kk177 ia177 rfl
theorem i177_130 {xs : List Int32} : xtI (xTa xs) 177 130 = some (.invokevirtual 227, 3) := x_ins (j := 73) kk177 ia177 rfl
theorem i177_133 {xs : List Int32} : xtI (xTa xs) 177 133 = some (.bipush 64, 2) := x_ins (j := 74) kk177 ia177 rfl
theorem i177_135 {xs : List Int32} : xtI (xTa xs) 177 135 = some (.if_icmp .ne 11, 3) := x_ins (j := 75) kk177 ia177 rfl
theorem i177_138 {xs : List Int32} : xtI (xTa xs) 177 138 = some (.aload_n 0, 1) := x_ins (j := 76) kk177 ia177 rfl
theorem i177_139 {xs : List Int32} : xtI (xTa xs) 177 139 = some (.iload_n 3, 1) := x_ins (j := 77) kk177 ia177 rfl
theorem i177_140 {xs : List Int32} : xtI (xTa xs) 177 140 = some (.invokevirtual 289, 3) := x_ins (j := 78) kk177 ia177 rfl
theorem i177_143 {xs : List Int32} : xtI (xTa xs) 177 143 = some (.goto 28, 3) := x_ins (j := 79) kk177 ia177 rfl
theorem i177_146 {xs : List Int32} : xtI (xTa xs) 177 146 = some (.aload_n 0, 1) := x_ins (j := 80) kk177 ia177 rfl
theorem i177_147 {xs : List Int32} : xtI (xTa xs) 177 147 = some (.iload_n 3, 1) := x_ins (j := 81) kk177 ia177 rfl
theorem i177_148 {xs : List Int32} : xtI (xTa xs) 177 148 = some (.invokevirtual 292, 3) := x_ins (j := 82) kk177 ia177 rfl
theorem i177_151 {xs : List Int32} : xtI (xTa xs) 177 151 = some (.ifCond .eq 14, 3) := x_ins (j := 83) kk177 ia177 rfl
theorem i177_154 {xs : List Int32} : xtI (xTa xs) 177 154 = some (.aload_n 0, 1) := x_ins (j := 84) kk177 ia177 rfl
theorem i177_155 {xs : List Int32} : xtI (xTa xs) 177 155 = some (.iload_n 3, 1) := x_ins (j := 85) kk177 ia177 rfl
theorem i177_156 {xs : List Int32} : xtI (xTa xs) 177 156 = some (.iload_n 3, 1) := x_ins (j := 86) kk177 ia177 rfl
theorem i177_157 {xs : List Int32} : xtI (xTa xs) 177 157 = some (.iload_n 2, 1) := x_ins (j := 87) kk177 ia177 rfl
theorem i177_158 {xs : List Int32} : xtI (xTa xs) 177 158 = some (.isub, 1) := x_ins (j := 88) kk177 ia177 rfl
theorem i177_159 {xs : List Int32} : xtI (xTa xs) 177 159 = some (.invokevirtual 295, 3) := x_ins (j := 89) kk177 ia177 rfl
theorem i177_162 {xs : List Int32} : xtI (xTa xs) 177 162 = some (.goto 9, 3) := x_ins (j := 90) kk177 ia177 rfl
theorem i177_165 {xs : List Int32} : xtI (xTa xs) 177 165 = some (.aload_n 0, 1) := x_ins (j := 91) kk177 ia177 rfl
theorem i177_166 {xs : List Int32} : xtI (xTa xs) 177 166 = some (.iload_n 3, 1) := x_ins (j := 92) kk177 ia177 rfl
theorem i177_167 {xs : List Int32} : xtI (xTa xs) 177 167 = some (.iload_n 1, 1) := x_ins (j := 93) kk177 ia177 rfl
theorem i177_168 {xs : List Int32} : xtI (xTa xs) 177 168 = some (.invokevirtual 298, 3) := x_ins (j := 94) kk177 ia177 rfl
theorem i177_171 {xs : List Int32} : xtI (xTa xs) 177 171 = some (.aload_n 0, 1) := x_ins (j := 95) kk177 ia177 rfl
theorem i177_172 {xs : List Int32} : xtI (xTa xs) 177 172 = some (.iload_n 3, 1) := x_ins (j := 96) kk177 ia177 rfl
theorem i177_173 {xs : List Int32} : xtI (xTa xs) 177 173 = some (.aload_n 0, 1) := x_ins (j := 97) kk177 ia177 rfl
theorem i177_174 {xs : List Int32} : xtI (xTa xs) 177 174 = some (.getfield 224, 3) := x_ins (j := 98) kk177 ia177 rfl
theorem i177_177 {xs : List Int32} : xtI (xTa xs) 177 177 = some (.if_icmp .ne 7, 3) := x_ins (j := 99) kk177 ia177 rfl
theorem i177_180 {xs : List Int32} : xtI (xTa xs) 177 180 = some (.iconst 1, 1) := x_ins (j := 100) kk177 ia177 rfl
theorem i177_181 {xs : List Int32} : xtI (xTa xs) 177 181 = some (.goto 4, 3) := x_ins (j := 101) kk177 ia177 rfl
theorem i177_184 {xs : List Int32} : xtI (xTa xs) 177 184 = some (.iconst 0, 1) := x_ins (j := 102) kk177 ia177 rfl
theorem i177_185 {xs : List Int32} : xtI (xTa xs) 177 185 = some (.putfield 282, 3) := x_ins (j := 103) kk177 ia177 rfl
theorem i177_188 {xs : List Int32} : xtI (xTa xs) 177 188 = some (.aload_n 0, 1) := x_ins (j := 104) kk177 ia177 rfl
theorem i177_189 {xs : List Int32} : xtI (xTa xs) 177 189 = some (.getfield 224, 3) := x_ins (j := 105) kk177 ia177 rfl
theorem i177_192 {xs : List Int32} : xtI (xTa xs) 177 192 = some (.iconst 1, 1) := x_ins (j := 106) kk177 ia177 rfl
theorem i177_193 {xs : List Int32} : xtI (xTa xs) 177 193 = some (.iadd, 1) := x_ins (j := 107) kk177 ia177 rfl
theorem i177_194 {xs : List Int32} : xtI (xTa xs) 177 194 = some (.istore_n 2, 1) := x_ins (j := 108) kk177 ia177 rfl
theorem i177_195 {xs : List Int32} : xtI (xTa xs) 177 195 = some (.goto (-111), 3) := x_ins (j := 109) kk177 ia177 rfl
theorem i177_198 {xs : List Int32} : xtI (xTa xs) 177 198 = some (.return_, 1) := x_ins (j := 110) kk177 ia177 rfl
theorem kk178 : xK0.getD 178 [] = k178 := rfl
set_option maxRecDepth 100000 in
theorem ia178 : (k178.all fun e => decide (k178.lookup e.1 = some e.2)) = true := by decide +kernel
theorem i178_0 {xs : List Int32} : xtI (xTa xs) 178 0 = some (.iload_n 1, 1) := x_ins (j := 0) kk178 ia178 rfl
theorem i178_1 {xs : List Int32} : xtI (xTa xs) 178 1 = some (.istore_n 3, 1) := x_ins (j := 1) kk178 ia178 rfl
theorem i178_2 {xs : List Int32} : xtI (xTa xs) 178 2 = some (.iload_n 3, 1) := x_ins (j := 2) kk178 ia178 rfl
theorem i178_3 {xs : List Int32} : xtI (xTa xs) 178 3 = some (.iload_n 2, 1) := x_ins (j := 3) kk178 ia178 rfl
theorem i178_4 {xs : List Int32} : xtI (xTa xs) 178 4 = some (.if_icmp .ge 19, 3) := x_ins (j := 4) kk178 ia178 rfl
theorem i178_7 {xs : List Int32} : xtI (xTa xs) 178 7 = some (.aload_n 0, 1) := x_ins (j := 5) kk178 ia178 rfl
theorem i178_8 {xs : List Int32} : xtI (xTa xs) 178 8 = some (.iload_n 3, 1) := x_ins (j := 6) kk178 ia178 rfl
theorem i178_9 {xs : List Int32} : xtI (xTa xs) 178 9 = some (.invokevirtual 227, 3) := x_ins (j := 7) kk178 ia178 rfl
theorem i178_12 {xs : List Int32} : xtI (xTa xs) 178 12 = some (.bipush 10, 2) := x_ins (j := 8) kk178 ia178 rfl
theorem i178_14 {xs : List Int32} : xtI (xTa xs) 178 14 = some (.if_icmp .eq 9, 3) := x_ins (j := 9) kk178 ia178 rfl
theorem i178_17 {xs : List Int32} : xtI (xTa xs) 178 17 = some (.iinc 3 1, 3) := x_ins (j := 10) kk178 ia178 rfl
theorem i178_20 {xs : List Int32} : xtI (xTa xs) 178 20 = some (.goto (-18), 3) := x_ins (j := 11) kk178 ia178 rfl
theorem i178_23 {xs : List Int32} : xtI (xTa xs) 178 23 = some (.iload_n 3, 1) := x_ins (j := 12) kk178 ia178 rfl
theorem i178_24 {xs : List Int32} : xtI (xTa xs) 178 24 = some (.ireturn, 1) := x_ins (j := 13) kk178 ia178 rfl
theorem kk179 : xK0.getD 179 [] = k179 := rfl
set_option maxRecDepth 100000 in
theorem ia179 : (k179.all fun e => decide (k179.lookup e.1 = some e.2)) = true := by decide +kernel
theorem i179_0 {xs : List Int32} : xtI (xTa xs) 179 0 = some (.aload_n 0, 1) := x_ins (j := 0) kk179 ia179 rfl
theorem i179_1 {xs : List Int32} : xtI (xTa xs) 179 1 = some (.iload_n 1, 1) := x_ins (j := 1) kk179 ia179 rfl
theorem i179_2 {xs : List Int32} : xtI (xTa xs) 179 2 = some (.invokevirtual 227, 3) := x_ins (j := 2) kk179 ia179 rfl
theorem i179_5 {xs : List Int32} : xtI (xTa xs) 179 5 = some (.bipush 45, 2) := x_ins (j := 3) kk179 ia179 rfl
theorem i179_7 {xs : List Int32} : xtI (xTa xs) 179 7 = some (.if_icmp .ne 29, 3) := x_ins (j := 4) kk179 ia179 rfl
theorem i179_10 {xs : List Int32} : xtI (xTa xs) 179 10 = some (.iload_n 1, 1) := x_ins (j := 5) kk179 ia179 rfl
theorem i179_11 {xs : List Int32} : xtI (xTa xs) 179 11 = some (.iconst 1, 1) := x_ins (j := 6) kk179 ia179 rfl
theorem i179_12 {xs : List Int32} : xtI (xTa xs) 179 12 = some (.iadd, 1) := x_ins (j := 7) kk179 ia179 rfl
theorem i179_13 {xs : List Int32} : xtI (xTa xs) 179 13 = some (.aload_n 0, 1) := x_ins (j := 8) kk179 ia179 rfl
theorem i179_14 {xs : List Int32} : xtI (xTa xs) 179 14 = some (.getfield 224, 3) := x_ins (j := 9) kk179 ia179 rfl
theorem i179_17 {xs : List Int32} : xtI (xTa xs) 179 17 = some (.if_icmp .eq 15, 3) := x_ins (j := 10) kk179 ia179 rfl
theorem i179_20 {xs : List Int32} : xtI (xTa xs) 179 20 = some (.aload_n 0, 1) := x_ins (j := 11) kk179 ia179 rfl
theorem i179_21 {xs : List Int32} : xtI (xTa xs) 179 21 = some (.iload_n 1, 1) := x_ins (j := 12) kk179 ia179 rfl
theorem i179_22 {xs : List Int32} : xtI (xTa xs) 179 22 = some (.iconst 1, 1) := x_ins (j := 13) kk179 ia179 rfl
theorem i179_23 {xs : List Int32} : xtI (xTa xs) 179 23 = some (.iadd, 1) := x_ins (j := 14) kk179 ia179 rfl
theorem i179_24 {xs : List Int32} : xtI (xTa xs) 179 24 = some (.invokevirtual 227, 3) := x_ins (j := 15) kk179 ia179 rfl
theorem i179_27 {xs : List Int32} : xtI (xTa xs) 179 27 = some (.bipush 32, 2) := x_ins (j := 16) kk179 ia179 rfl
theorem i179_29 {xs : List Int32} : xtI (xTa xs) 179 29 = some (.if_icmp .ne 7, 3) := x_ins (j := 17) kk179 ia179 rfl
theorem i179_32 {xs : List Int32} : xtI (xTa xs) 179 32 = some (.iconst 1, 1) := x_ins (j := 18) kk179 ia179 rfl
theorem i179_33 {xs : List Int32} : xtI (xTa xs) 179 33 = some (.goto 4, 3) := x_ins (j := 19) kk179 ia179 rfl
theorem i179_36 {xs : List Int32} : xtI (xTa xs) 179 36 = some (.iconst 0, 1) := x_ins (j := 20) kk179 ia179 rfl
theorem i179_37 {xs : List Int32} : xtI (xTa xs) 179 37 = some (.ireturn, 1) := x_ins (j := 21) kk179 ia179 rfl
theorem kk180 : xK0.getD 180 [] = k180 := rfl
set_option maxRecDepth 100000 in
theorem ia180 : (k180.all fun e => decide (k180.lookup e.1 = some e.2)) = true := by decide +kernel
theorem i180_0 {xs : List Int32} : xtI (xTa xs) 180 0 = some (.aload_n 0, 1) := x_ins (j := 0) kk180 ia180 rfl
theorem i180_1 {xs : List Int32} : xtI (xTa xs) 180 1 = some (.getfield 47, 3) := x_ins (j := 1) kk180 ia180 rfl
theorem i180_4 {xs : List Int32} : xtI (xTa xs) 180 4 = some (.bipush 40, 2) := x_ins (j := 2) kk180 ia180 rfl
theorem i180_6 {xs : List Int32} : xtI (xTa xs) 180 6 = some (.iaload, 1) := x_ins (j := 3) kk180 ia180 rfl
theorem i180_7 {xs : List Int32} : xtI (xTa xs) 180 7 = some (.ifCond .le 27, 3) := x_ins (j := 4) kk180 ia180 rfl
theorem i180_10 {xs : List Int32} : xtI (xTa xs) 180 10 = some (.aload_n 0, 1) := x_ins (j := 5) kk180 ia180 rfl
theorem i180_11 {xs : List Int32} : xtI (xTa xs) 180 11 = some (.getfield 282, 3) := x_ins (j := 6) kk180 ia180 rfl
theorem i180_14 {xs : List Int32} : xtI (xTa xs) 180 14 = some (.ifCond .ne 20, 3) := x_ins (j := 7) kk180 ia180 rfl
theorem i180_17 {xs : List Int32} : xtI (xTa xs) 180 17 = some (.aload_n 0, 1) := x_ins (j := 8) kk180 ia180 rfl
theorem i180_18 {xs : List Int32} : xtI (xTa xs) 180 18 = some (.getfield 53, 3) := x_ins (j := 9) kk180 ia180 rfl
theorem i180_21 {xs : List Int32} : xtI (xTa xs) 180 21 = some (.aload_n 0, 1) := x_ins (j := 10) kk180 ia180 rfl
theorem i180_22 {xs : List Int32} : xtI (xTa xs) 180 22 = some (.invokevirtual 274, 3) := x_ins (j := 11) kk180 ia180 rfl
theorem i180_25 {xs : List Int32} : xtI (xTa xs) 180 25 = some (.iaload, 1) := x_ins (j := 12) kk180 ia180 rfl
theorem i180_26 {xs : List Int32} : xtI (xTa xs) 180 26 = some (.iconst 1, 1) := x_ins (j := 13) kk180 ia180 rfl
theorem i180_27 {xs : List Int32} : xtI (xTa xs) 180 27 = some (.if_icmp .ne 7, 3) := x_ins (j := 14) kk180 ia180 rfl
theorem i180_30 {xs : List Int32} : xtI (xTa xs) 180 30 = some (.iconst 1, 1) := x_ins (j := 15) kk180 ia180 rfl
theorem i180_31 {xs : List Int32} : xtI (xTa xs) 180 31 = some (.goto 4, 3) := x_ins (j := 16) kk180 ia180 rfl
theorem i180_34 {xs : List Int32} : xtI (xTa xs) 180 34 = some (.iconst 0, 1) := x_ins (j := 17) kk180 ia180 rfl
theorem i180_35 {xs : List Int32} : xtI (xTa xs) 180 35 = some (.istore_n 3, 1) := x_ins (j := 18) kk180 ia180 rfl
theorem i180_36 {xs : List Int32} : xtI (xTa xs) 180 36 = some (.iload_n 3, 1) := x_ins (j := 19) kk180 ia180 rfl
theorem i180_37 {xs : List Int32} : xtI (xTa xs) 180 37 = some (.ifCond .eq 17, 3) := x_ins (j := 20) kk180 ia180 rfl
theorem i180_40 {xs : List Int32} : xtI (xTa xs) 180 40 = some (.aload_n 0, 1) := x_ins (j := 21) kk180 ia180 rfl
theorem i180_41 {xs : List Int32} : xtI (xTa xs) 180 41 = some (.getfield 56, 3) := x_ins (j := 22) kk180 ia180 rfl
theorem i180_44 {xs : List Int32} : xtI (xTa xs) 180 44 = some (.aload_n 0, 1) := x_ins (j := 23) kk180 ia180 rfl
theorem i180_45 {xs : List Int32} : xtI (xTa xs) 180 45 = some (.invokevirtual 274, 3) := x_ins (j := 24) kk180 ia180 rfl
theorem i180_48 {xs : List Int32} : xtI (xTa xs) 180 48 = some (.iaload, 1) := x_ins (j := 25) kk180 ia180 rfl
theorem i180_49 {xs : List Int32} : xtI (xTa xs) 180 49 = some (.iconst 1, 1) := x_ins (j := 26) kk180 ia180 rfl
theorem i180_50 {xs : List Int32} : xtI (xTa xs) 180 50 = some (.iadd, 1) := x_ins (j := 27) kk180 ia180 rfl
theorem i180_51 {xs : List Int32} : xtI (xTa xs) 180 51 = some (.goto 4, 3) := x_ins (j := 28) kk180 ia180 rfl
theorem i180_54 {xs : List Int32} : xtI (xTa xs) 180 54 = some (.iconst 0, 1) := x_ins (j := 29) kk180 ia180 rfl
theorem i180_55 {xs : List Int32} : xtI (xTa xs) 180 55 = some (.istore 4, 2) := x_ins (j := 30) kk180 ia180 rfl
theorem i180_57 {xs : List Int32} : xtI (xTa xs) 180 57 = some (.iload_n 2, 1) := x_ins (j := 31) kk180 ia180 rfl
theorem i180_58 {xs : List Int32} : xtI (xTa xs) 180 58 = some (.iconst 2, 1) := x_ins (j := 32) kk180 ia180 rfl
theorem i180_59 {xs : List Int32} : xtI (xTa xs) 180 59 = some (.idiv, 1) := x_ins (j := 33) kk180 ia180 rfl
theorem i180_60 {xs : List Int32} : xtI (xTa xs) 180 60 = some (.istore 5, 2) := x_ins (j := 34) kk180 ia180 rfl
theorem i180_62 {xs : List Int32} : xtI (xTa xs) 180 62 = some (.aload_n 0, 1) := x_ins (j := 35) kk180 ia180 rfl
theorem i180_63 {xs : List Int32} : xtI (xTa xs) 180 63 = some (.getfield 278, 3) := x_ins (j := 36) kk180 ia180 rfl
theorem i180_66 {xs : List Int32} : xtI (xTa xs) 180 66 = some (.ifCond .eq 12, 3) := x_ins (j := 37) kk180 ia180 rfl
theorem i180_69 {xs : List Int32} : xtI (xTa xs) 180 69 = some (.aload_n 0, 1) := x_ins (j := 38) kk180 ia180 rfl
theorem i180_70 {xs : List Int32} : xtI (xTa xs) 180 70 = some (.iconst 2, 1) := x_ins (j := 39) kk180 ia180 rfl
theorem i180_71 {xs : List Int32} : xtI (xTa xs) 180 71 = some (.iload_n 1, 1) := x_ins (j := 40) kk180 ia180 rfl
theorem i180_72 {xs : List Int32} : xtI (xTa xs) 180 72 = some (.invokevirtual 267, 3) := x_ins (j := 41) kk180 ia180 rfl
theorem i180_75 {xs : List Int32} : xtI (xTa xs) 180 75 = some (.goto 78, 3) := x_ins (j := 42) kk180 ia180 rfl
theorem i180_78 {xs : List Int32} : xtI (xTa xs) 180 78 = some (.iload_n 2, 1) := x_ins (j := 43) kk180 ia180 rfl
theorem i180_79 {xs : List Int32} : xtI (xTa xs) 180 79 = some (.iconst 2, 1) := x_ins (j := 44) kk180 ia180 rfl
theorem i180_80 {xs : List Int32} : xtI (xTa xs) 180 80 = some (.irem, 1) := x_ins (j := 45) kk180 ia180 rfl
theorem i180_81 {xs : List Int32} : xtI (xTa xs) 180 81 = some (.iconst 1, 1) := x_ins (j := 46) kk180 ia180 rfl
theorem i180_82 {xs : List Int32} : xtI (xTa xs) 180 82 = some (.if_icmp .eq 16, 3) := x_ins (j := 47) kk180 ia180 rfl
theorem i180_85 {xs : List Int32} : xtI (xTa xs) 180 85 = some (.iload 5, 2) := x_ins (j := 48) kk180 ia180 rfl
theorem i180_87 {xs : List Int32} : xtI (xTa xs) 180 87 = some (.iconst 2, 1) := x_ins (j := 49) kk180 ia180 rfl
theorem i180_88 {xs : List Int32} : xtI (xTa xs) 180 88 = some (.if_icmp .gt 10, 3) := x_ins (j := 50) kk180 ia180 rfl
theorem i180_91 {xs : List Int32} : xtI (xTa xs) 180 91 = some (.iload 5, 2) := x_ins (j := 51) kk180 ia180 rfl
theorem i180_93 {xs : List Int32} : xtI (xTa xs) 180 93 = some (.iload 4, 2) := x_ins (j := 52) kk180 ia180 rfl
theorem i180_95 {xs : List Int32} : xtI (xTa xs) 180 95 = some (.if_icmp .le 12, 3) := x_ins (j := 53) kk180 ia180 rfl
theorem i180_98 {xs : List Int32} : xtI (xTa xs) 180 98 = some (.aload_n 0, 1) := x_ins (j := 54) kk180 ia180 rfl
theorem i180_99 {xs : List Int32} : xtI (xTa xs) 180 99 = some (.iconst 3, 1) := x_ins (j := 55) kk180 ia180 rfl
theorem i180_100 {xs : List Int32} : xtI (xTa xs) 180 100 = some (.iload_n 1, 1) := x_ins (j := 56) kk180 ia180 rfl
theorem i180_101 {xs : List Int32} : xtI (xTa xs) 180 101 = some (.invokevirtual 267, 3) := x_ins (j := 57) kk180 ia180 rfl
theorem i180_104 {xs : List Int32} : xtI (xTa xs) 180 104 = some (.goto 49, 3) := x_ins (j := 58) kk180 ia180 rfl
theorem i180_107 {xs : List Int32} : xtI (xTa xs) 180 107 = some (.aload_n 0, 1) := x_ins (j := 59) kk180 ia180 rfl
theorem i180_108 {xs : List Int32} : xtI (xTa xs) 180 108 = some (.getfield 47, 3) := x_ins (j := 60) kk180 ia180 rfl
theorem i180_111 {xs : List Int32} : xtI (xTa xs) 180 111 = some (.bipush 40, 2) := x_ins (j := 61) kk180 ia180 rfl
theorem i180_113 {xs : List Int32} : xtI (xTa xs) 180 113 = some (.iaload, 1) := x_ins (j := 62) kk180 ia180 rfl
theorem i180_114 {xs : List Int32} : xtI (xTa xs) 180 114 = some (.bipush 24, 2) := x_ins (j := 63) kk180 ia180 rfl
theorem i180_116 {xs : List Int32} : xtI (xTa xs) 180 116 = some (.if_icmp .ne 12, 3) := x_ins (j := 64) kk180 ia180 rfl
theorem i180_119 {xs : List Int32} : xtI (xTa xs) 180 119 = some (.aload_n 0, 1) := x_ins (j := 65) kk180 ia180 rfl
theorem i180_120 {xs : List Int32} : xtI (xTa xs) 180 120 = some (.iconst 4, 1) := x_ins (j := 66) kk180 ia180 rfl
theorem i180_121 {xs : List Int32} : xtI (xTa xs) 180 121 = some (.iload_n 1, 1) := x_ins (j := 67) kk180 ia180 rfl
theorem i180_122 {xs : List Int32} : xtI (xTa xs) 180 122 = some (.invokevirtual 267, 3) := x_ins (j := 68) kk180 ia180 rfl
theorem i180_125 {xs : List Int32} : xtI (xTa xs) 180 125 = some (.goto 28, 3) := x_ins (j := 69) kk180 ia180 rfl
theorem i180_128 {xs : List Int32} : xtI (xTa xs) 180 128 = some (.aload_n 0, 1) := x_ins (j := 70) kk180 ia180 rfl
theorem i180_129 {xs : List Int32} : xtI (xTa xs) 180 129 = some (.iconst 1, 1) := x_ins (j := 71) kk180 ia180 rfl
theorem i180_130 {xs : List Int32} : xtI (xTa xs) 180 130 = some (.iload 5, 2) := x_ins (j := 72) kk180 ia180 rfl
theorem i180_132 {xs : List Int32} : xtI (xTa xs) 180 132 = some (.iload_n 1, 1) := x_ins (j := 73) kk180 ia180 rfl
theorem i180_133 {xs : List Int32} : xtI (xTa xs) 180 133 = some (.invokevirtual 301, 3) := x_ins (j := 74) kk180 ia180 rfl
theorem i180_136 {xs : List Int32} : xtI (xTa xs) 180 136 = some (.aload_n 0, 1) := x_ins (j := 75) kk180 ia180 rfl
theorem i180_137 {xs : List Int32} : xtI (xTa xs) 180 137 = some (.getfield 74, 3) := x_ins (j := 76) kk180 ia180 rfl
theorem i180_140 {xs : List Int32} : xtI (xTa xs) 180 140 = some (.aload_n 0, 1) := x_ins (j := 77) kk180 ia180 rfl
theorem i180_141 {xs : List Int32} : xtI (xTa xs) 180 141 = some (.invokevirtual 274, 3) := x_ins (j := 78) kk180 ia180 rfl
theorem i180_144 {xs : List Int32} : xtI (xTa xs) 180 144 = some (.iload_n 3, 1) := x_ins (j := 79) kk180 ia180 rfl
theorem i180_145 {xs : List Int32} : xtI (xTa xs) 180 145 = some (.bastore, 1) := x_ins (j := 80) kk180 ia180 rfl
theorem i180_146 {xs : List Int32} : xtI (xTa xs) 180 146 = some (.aload_n 0, 1) := x_ins (j := 81) kk180 ia180 rfl
theorem i180_147 {xs : List Int32} : xtI (xTa xs) 180 147 = some (.iload_n 1, 1) := x_ins (j := 82) kk180 ia180 rfl
theorem i180_148 {xs : List Int32} : xtI (xTa xs) 180 148 = some (.iconst 1, 1) := x_ins (j := 83) kk180 ia180 rfl
theorem i180_149 {xs : List Int32} : xtI (xTa xs) 180 149 = some (.iadd, 1) := x_ins (j := 84) kk180 ia180 rfl
theorem i180_150 {xs : List Int32} : xtI (xTa xs) 180 150 = some (.invokevirtual 305, 3) := x_ins (j := 85) kk180 ia180 rfl
theorem i180_153 {xs : List Int32} : xtI (xTa xs) 180 153 = some (.return_, 1) := x_ins (j := 86) kk180 ia180 rfl
theorem kk181 : xK0.getD 181 [] = k181 := rfl
set_option maxRecDepth 100000 in
theorem ia181 : (k181.all fun e => decide (k181.lookup e.1 = some e.2)) = true := by decide +kernel
theorem i181_0 {xs : List Int32} : xtI (xTa xs) 181 0 = some (.aload_n 0, 1) := x_ins (j := 0) kk181 ia181 rfl
theorem i181_1 {xs : List Int32} : xtI (xTa xs) 181 1 = some (.getfield 47, 3) := x_ins (j := 1) kk181 ia181 rfl
theorem i181_4 {xs : List Int32} : xtI (xTa xs) 181 4 = some (.bipush 40, 2) := x_ins (j := 2) kk181 ia181 rfl
theorem i181_6 {xs : List Int32} : xtI (xTa xs) 181 6 = some (.iaload, 1) := x_ins (j := 3) kk181 ia181 rfl
theorem i181_7 {xs : List Int32} : xtI (xTa xs) 181 7 = some (.ifCond .eq 10, 3) := x_ins (j := 4) kk181 ia181 rfl
theorem i181_10 {xs : List Int32} : xtI (xTa xs) 181 10 = some (.aload_n 0, 1) := x_ins (j := 5) kk181 ia181 rfl
theorem i181_11 {xs : List Int32} : xtI (xTa xs) 181 11 = some (.getfield 282, 3) := x_ins (j := 6) kk181 ia181 rfl
theorem i181_14 {xs : List Int32} : xtI (xTa xs) 181 14 = some (.ifCond .eq 7, 3) := x_ins (j := 7) kk181 ia181 rfl
theorem i181_17 {xs : List Int32} : xtI (xTa xs) 181 17 = some (.iconst 1, 1) := x_ins (j := 8) kk181 ia181 rfl
theorem i181_18 {xs : List Int32} : xtI (xTa xs) 181 18 = some (.goto 4, 3) := x_ins (j := 9) kk181 ia181 rfl
theorem i181_21 {xs : List Int32} : xtI (xTa xs) 181 21 = some (.iconst 0, 1) := x_ins (j := 10) kk181 ia181 rfl
theorem i181_22 {xs : List Int32} : xtI (xTa xs) 181 22 = some (.istore_n 3, 1) := x_ins (j := 11) kk181 ia181 rfl
theorem i181_23 {xs : List Int32} : xtI (xTa xs) 181 23 = some (.iload_n 3, 1) := x_ins (j := 12) kk181 ia181 rfl
theorem i181_24 {xs : List Int32} : xtI (xTa xs) 181 24 = some (.ifCond .ne 42, 3) := x_ins (j := 13) kk181 ia181 rfl
theorem i181_27 {xs : List Int32} : xtI (xTa xs) 181 27 = some (.aload_n 0, 1) := x_ins (j := 14) kk181 ia181 rfl
theorem i181_28 {xs : List Int32} : xtI (xTa xs) 181 28 = some (.getfield 53, 3) := x_ins (j := 15) kk181 ia181 rfl
theorem i181_31 {xs : List Int32} : xtI (xTa xs) 181 31 = some (.aload_n 0, 1) := x_ins (j := 16) kk181 ia181 rfl
theorem i181_32 {xs : List Int32} : xtI (xTa xs) 181 32 = some (.invokevirtual 274, 3) := x_ins (j := 17) kk181 ia181 rfl
theorem i181_35 {xs : List Int32} : xtI (xTa xs) 181 35 = some (.iaload, 1) := x_ins (j := 18) kk181 ia181 rfl
theorem i181_36 {xs : List Int32} : xtI (xTa xs) 181 36 = some (.istore 4, 2) := x_ins (j := 19) kk181 ia181 rfl
theorem i181_38 {xs : List Int32} : xtI (xTa xs) 181 38 = some (.iload 4, 2) := x_ins (j := 20) kk181 ia181 rfl
theorem i181_40 {xs : List Int32} : xtI (xTa xs) 181 40 = some (.iconst 5, 1) := x_ins (j := 21) kk181 ia181 rfl
theorem i181_41 {xs : List Int32} : xtI (xTa xs) 181 41 = some (.if_icmp .eq 10, 3) := x_ins (j := 22) kk181 ia181 rfl
theorem i181_44 {xs : List Int32} : xtI (xTa xs) 181 44 = some (.iload 4, 2) := x_ins (j := 23) kk181 ia181 rfl
theorem i181_46 {xs : List Int32} : xtI (xTa xs) 181 46 = some (.bipush 6, 2) := x_ins (j := 24) kk181 ia181 rfl
theorem i181_48 {xs : List Int32} : xtI (xTa xs) 181 48 = some (.if_icmp .ne 12, 3) := x_ins (j := 25) kk181 ia181 rfl
theorem i181_51 {xs : List Int32} : xtI (xTa xs) 181 51 = some (.aload_n 0, 1) := x_ins (j := 26) kk181 ia181 rfl
theorem i181_52 {xs : List Int32} : xtI (xTa xs) 181 52 = some (.iconst 2, 1) := x_ins (j := 27) kk181 ia181 rfl
theorem i181_53 {xs : List Int32} : xtI (xTa xs) 181 53 = some (.iload_n 1, 1) := x_ins (j := 28) kk181 ia181 rfl
theorem i181_54 {xs : List Int32} : xtI (xTa xs) 181 54 = some (.invokevirtual 267, 3) := x_ins (j := 29) kk181 ia181 rfl
theorem i181_57 {xs : List Int32} : xtI (xTa xs) 181 57 = some (.goto 8, 3) := x_ins (j := 30) kk181 ia181 rfl
theorem i181_60 {xs : List Int32} : xtI (xTa xs) 181 60 = some (.aload_n 0, 1) := x_ins (j := 31) kk181 ia181 rfl
theorem i181_61 {xs : List Int32} : xtI (xTa xs) 181 61 = some (.iload_n 1, 1) := x_ins (j := 32) kk181 ia181 rfl
theorem i181_62 {xs : List Int32} : xtI (xTa xs) 181 62 = some (.invokevirtual 305, 3) := x_ins (j := 33) kk181 ia181 rfl
theorem i181_65 {xs : List Int32} : xtI (xTa xs) 181 65 = some (.return_, 1) := x_ins (j := 34) kk181 ia181 rfl
theorem i181_66 {xs : List Int32} : xtI (xTa xs) 181 66 = some (.aload_n 0, 1) := x_ins (j := 35) kk181 ia181 rfl
theorem i181_67 {xs : List Int32} : xtI (xTa xs) 181 67 = some (.iload_n 1, 1) := x_ins (j := 36) kk181 ia181 rfl
theorem i181_68 {xs : List Int32} : xtI (xTa xs) 181 68 = some (.ldc2_w 308, 3) := x_ins (j := 37) kk181 ia181 rfl
theorem i181_71 {xs : List Int32} : xtI (xTa xs) 181 71 = some (.bipush 8, 2) := x_ins (j := 38) kk181 ia181 rfl
theorem i181_73 {xs : List Int32} : xtI (xTa xs) 181 73 = some (.invokevirtual 234, 3) := x_ins (j := 39) kk181 ia181 rfl
theorem i181_76 {xs : List Int32} : xtI (xTa xs) 181 76 = some (.ifCond .eq 38, 3) := x_ins (j := 40) kk181 ia181 rfl
theorem i181_79 {xs : List Int32} : xtI (xTa xs) 181 79 = some (.aload_n 0, 1) := x_ins (j := 41) kk181 ia181 rfl
theorem i181_80 {xs : List Int32} : xtI (xTa xs) 181 80 = some (.iload_n 1, 1) := x_ins (j := 42) kk181 ia181 rfl
theorem i181_81 {xs : List Int32} : xtI (xTa xs) 181 81 = some (.bipush 8, 2) := x_ins (j := 43) kk181 ia181 rfl
theorem i181_83 {xs : List Int32} : xtI (xTa xs) 181 83 = some (.iadd, 1) := x_ins (j := 44) kk181 ia181 rfl
theorem i181_84 {xs : List Int32} : xtI (xTa xs) 181 84 = some (.ldc2_w 310, 3) := x_ins (j := 45) kk181 ia181 rfl
theorem i181_87 {xs : List Int32} : xtI (xTa xs) 181 87 = some (.iconst 1, 1) := x_ins (j := 46) kk181 ia181 rfl
theorem i181_88 {xs : List Int32} : xtI (xTa xs) 181 88 = some (.invokevirtual 234, 3) := x_ins (j := 47) kk181 ia181 rfl
theorem i181_91 {xs : List Int32} : xtI (xTa xs) 181 91 = some (.ifCond .eq 23, 3) := x_ins (j := 48) kk181 ia181 rfl
theorem i181_94 {xs : List Int32} : xtI (xTa xs) 181 94 = some (.aload_n 0, 1) := x_ins (j := 49) kk181 ia181 rfl
theorem i181_95 {xs : List Int32} : xtI (xTa xs) 181 95 = some (.getfield 312, 3) := x_ins (j := 50) kk181 ia181 rfl
theorem i181_98 {xs : List Int32} : xtI (xTa xs) 181 98 = some (.ifCond .eq 16, 3) := x_ins (j := 51) kk181 ia181 rfl
theorem i181_101 {xs : List Int32} : xtI (xTa xs) 181 101 = some (.aload_n 0, 1) := x_ins (j := 52) kk181 ia181 rfl
theorem i181_102 {xs : List Int32} : xtI (xTa xs) 181 102 = some (.iload_n 1, 1) := x_ins (j := 53) kk181 ia181 rfl
theorem i181_103 {xs : List Int32} : xtI (xTa xs) 181 103 = some (.iload_n 2, 1) := x_ins (j := 54) kk181 ia181 rfl
theorem i181_104 {xs : List Int32} : xtI (xTa xs) 181 104 = some (.invokevirtual 315, 3) := x_ins (j := 55) kk181 ia181 rfl
theorem i181_107 {xs : List Int32} : xtI (xTa xs) 181 107 = some (.ifCond .eq 7, 3) := x_ins (j := 56) kk181 ia181 rfl
theorem i181_110 {xs : List Int32} : xtI (xTa xs) 181 110 = some (.iconst 1, 1) := x_ins (j := 57) kk181 ia181 rfl
theorem i181_111 {xs : List Int32} : xtI (xTa xs) 181 111 = some (.goto 4, 3) := x_ins (j := 58) kk181 ia181 rfl
theorem i181_114 {xs : List Int32} : xtI (xTa xs) 181 114 = some (.iconst 0, 1) := x_ins (j := 59) kk181 ia181 rfl
theorem i181_115 {xs : List Int32} : xtI (xTa xs) 181 115 = some (.istore 4, 2) := x_ins (j := 60) kk181 ia181 rfl
theorem i181_117 {xs : List Int32} : xtI (xTa xs) 181 117 = some (.aload_n 0, 1) := x_ins (j := 61) kk181 ia181 rfl
theorem i181_118 {xs : List Int32} : xtI (xTa xs) 181 118 = some (.getfield 278, 3) := x_ins (j := 62) kk181 ia181 rfl
theorem i181_121 {xs : List Int32} : xtI (xTa xs) 181 121 = some (.ifCond .ne 16, 3) := x_ins (j := 63) kk181 ia181 rfl
theorem i181_124 {xs : List Int32} : xtI (xTa xs) 181 124 = some (.iload 4, 2) := x_ins (j := 64) kk181 ia181 rfl
theorem i181_126 {xs : List Int32} : xtI (xTa xs) 181 126 = some (.ifCond .ne 20, 3) := x_ins (j := 65) kk181 ia181 rfl
theorem i181_129 {xs : List Int32} : xtI (xTa xs) 181 129 = some (.aload_n 0, 1) := x_ins (j := 66) kk181 ia181 rfl
theorem i181_130 {xs : List Int32} : xtI (xTa xs) 181 130 = some (.iload_n 1, 1) := x_ins (j := 67) kk181 ia181 rfl
theorem i181_131 {xs : List Int32} : xtI (xTa xs) 181 131 = some (.invokevirtual 264, 3) := x_ins (j := 68) kk181 ia181 rfl
theorem i181_134 {xs : List Int32} : xtI (xTa xs) 181 134 = some (.ifCond .eq 12, 3) := x_ins (j := 69) kk181 ia181 rfl
theorem i181_137 {xs : List Int32} : xtI (xTa xs) 181 137 = some (.aload_n 0, 1) := x_ins (j := 70) kk181 ia181 rfl
theorem i181_138 {xs : List Int32} : xtI (xTa xs) 181 138 = some (.iconst 2, 1) := x_ins (j := 71) kk181 ia181 rfl
theorem i181_139 {xs : List Int32} : xtI (xTa xs) 181 139 = some (.iload_n 1, 1) := x_ins (j := 72) kk181 ia181 rfl
theorem i181_140 {xs : List Int32} : xtI (xTa xs) 181 140 = some (.invokevirtual 267, 3) := x_ins (j := 73) kk181 ia181 rfl
theorem i181_143 {xs : List Int32} : xtI (xTa xs) 181 143 = some (.goto 95, 3) := x_ins (j := 74) kk181 ia181 rfl
theorem i181_146 {xs : List Int32} : xtI (xTa xs) 181 146 = some (.aload_n 0, 1) := x_ins (j := 75) kk181 ia181 rfl
theorem i181_147 {xs : List Int32} : xtI (xTa xs) 181 147 = some (.getfield 47, 3) := x_ins (j := 76) kk181 ia181 rfl
theorem i181_150 {xs : List Int32} : xtI (xTa xs) 181 150 = some (.bipush 40, 2) := x_ins (j := 77) kk181 ia181 rfl
theorem i181_152 {xs : List Int32} : xtI (xTa xs) 181 152 = some (.iaload, 1) := x_ins (j := 78) kk181 ia181 rfl
theorem i181_153 {xs : List Int32} : xtI (xTa xs) 181 153 = some (.bipush 24, 2) := x_ins (j := 79) kk181 ia181 rfl
theorem i181_155 {xs : List Int32} : xtI (xTa xs) 181 155 = some (.if_icmp .ne 12, 3) := x_ins (j := 80) kk181 ia181 rfl
theorem i181_158 {xs : List Int32} : xtI (xTa xs) 181 158 = some (.aload_n 0, 1) := x_ins (j := 81) kk181 ia181 rfl
theorem i181_159 {xs : List Int32} : xtI (xTa xs) 181 159 = some (.iconst 4, 1) := x_ins (j := 82) kk181 ia181 rfl
theorem i181_160 {xs : List Int32} : xtI (xTa xs) 181 160 = some (.iload_n 1, 1) := x_ins (j := 83) kk181 ia181 rfl
theorem i181_161 {xs : List Int32} : xtI (xTa xs) 181 161 = some (.invokevirtual 267, 3) := x_ins (j := 84) kk181 ia181 rfl
theorem i181_164 {xs : List Int32} : xtI (xTa xs) 181 164 = some (.goto 74, 3) := x_ins (j := 85) kk181 ia181 rfl
theorem i181_167 {xs : List Int32} : xtI (xTa xs) 181 167 = some (.iload 4, 2) := x_ins (j := 86) kk181 ia181 rfl
theorem i181_169 {xs : List Int32} : xtI (xTa xs) 181 169 = some (.ifCond .eq 57, 3) := x_ins (j := 87) kk181 ia181 rfl
theorem i181_172 {xs : List Int32} : xtI (xTa xs) 181 172 = some (.iconst 0, 1) := x_ins (j := 88) kk181 ia181 rfl
theorem i181_173 {xs : List Int32} : xtI (xTa xs) 181 173 = some (.istore 5, 2) := x_ins (j := 89) kk181 ia181 rfl
theorem i181_175 {xs : List Int32} : xtI (xTa xs) 181 175 = some (.iload 5, 2) := x_ins (j := 90) kk181 ia181 rfl
theorem i181_177 {xs : List Int32} : xtI (xTa xs) 181 177 = some (.aload_n 0, 1) := x_ins (j := 91) kk181 ia181 rfl
theorem i181_178 {xs : List Int32} : xtI (xTa xs) 181 178 = some (.getfield 47, 3) := x_ins (j := 92) kk181 ia181 rfl
theorem i181_181 {xs : List Int32} : xtI (xTa xs) 181 181 = some (.bipush 40, 2) := x_ins (j := 93) kk181 ia181 rfl
theorem i181_183 {xs : List Int32} : xtI (xTa xs) 181 183 = some (.iaload, 1) := x_ins (j := 94) kk181 ia181 rfl
theorem i181_184 {xs : List Int32} : xtI (xTa xs) 181 184 = some (.if_icmp .ge 31, 3) := x_ins (j := 95) kk181 ia181 rfl
theorem i181_187 {xs : List Int32} : xtI (xTa xs) 181 187 = some (.aload_n 0, 1) := x_ins (j := 96) kk181 ia181 rfl
theorem i181_188 {xs : List Int32} : xtI (xTa xs) 181 188 = some (.getfield 53, 3) := x_ins (j := 97) kk181 ia181 rfl
theorem i181_191 {xs : List Int32} : xtI (xTa xs) 181 191 = some (.sipush 960, 3) := x_ins (j := 98) kk181 ia181 rfl
theorem i181_194 {xs : List Int32} : xtI (xTa xs) 181 194 = some (.iload 5, 2) := x_ins (j := 99) kk181 ia181 rfl
theorem i181_196 {xs : List Int32} : xtI (xTa xs) 181 196 = some (.iadd, 1) := x_ins (j := 100) kk181 ia181 rfl
theorem i181_197 {xs : List Int32} : xtI (xTa xs) 181 197 = some (.iaload, 1) := x_ins (j := 101) kk181 ia181 rfl
theorem i181_198 {xs : List Int32} : xtI (xTa xs) 181 198 = some (.bipush 7, 2) := x_ins (j := 102) kk181 ia181 rfl
theorem i181_200 {xs : List Int32} : xtI (xTa xs) 181 200 = some (.if_icmp .ne 9, 3) := x_ins (j := 103) kk181 ia181 rfl
theorem i181_203 {xs : List Int32} : xtI (xTa xs) 181 203 = some (.aload_n 0, 1) := x_ins (j := 104) kk181 ia181 rfl
theorem i181_204 {xs : List Int32} : xtI (xTa xs) 181 204 = some (.iconst 5, 1) := x_ins (j := 105) kk181 ia181 rfl
theorem i181_205 {xs : List Int32} : xtI (xTa xs) 181 205 = some (.iload_n 1, 1) := x_ins (j := 106) kk181 ia181 rfl
theorem i181_206 {xs : List Int32} : xtI (xTa xs) 181 206 = some (.invokevirtual 267, 3) := x_ins (j := 107) kk181 ia181 rfl
theorem i181_209 {xs : List Int32} : xtI (xTa xs) 181 209 = some (.iinc 5 1, 3) := x_ins (j := 108) kk181 ia181 rfl
theorem i181_212 {xs : List Int32} : xtI (xTa xs) 181 212 = some (.goto (-37), 3) := x_ins (j := 109) kk181 ia181 rfl
theorem i181_215 {xs : List Int32} : xtI (xTa xs) 181 215 = some (.aload_n 0, 1) := x_ins (j := 110) kk181 ia181 rfl
theorem i181_216 {xs : List Int32} : xtI (xTa xs) 181 216 = some (.bipush 7, 2) := x_ins (j := 111) kk181 ia181 rfl
theorem i181_218 {xs : List Int32} : xtI (xTa xs) 181 218 = some (.iconst 0, 1) := x_ins (j := 112) kk181 ia181 rfl
theorem i181_219 {xs : List Int32} : xtI (xTa xs) 181 219 = some (.iload_n 1, 1) := x_ins (j := 113) kk181 ia181 rfl
theorem i181_220 {xs : List Int32} : xtI (xTa xs) 181 220 = some (.invokevirtual 301, 3) := x_ins (j := 114) kk181 ia181 rfl
theorem i181_223 {xs : List Int32} : xtI (xTa xs) 181 223 = some (.goto 15, 3) := x_ins (j := 115) kk181 ia181 rfl
theorem i181_226 {xs : List Int32} : xtI (xTa xs) 181 226 = some (.aload_n 0, 1) := x_ins (j := 116) kk181 ia181 rfl
theorem i181_227 {xs : List Int32} : xtI (xTa xs) 181 227 = some (.iconst 0, 1) := x_ins (j := 117) kk181 ia181 rfl
theorem i181_228 {xs : List Int32} : xtI (xTa xs) 181 228 = some (.iconst 0, 1) := x_ins (j := 118) kk181 ia181 rfl
theorem i181_229 {xs : List Int32} : xtI (xTa xs) 181 229 = some (.iload_n 1, 1) := x_ins (j := 119) kk181 ia181 rfl
theorem i181_230 {xs : List Int32} : xtI (xTa xs) 181 230 = some (.invokevirtual 301, 3) := x_ins (j := 120) kk181 ia181 rfl
theorem i181_233 {xs : List Int32} : xtI (xTa xs) 181 233 = some (.aload_n 0, 1) := x_ins (j := 121) kk181 ia181 rfl
theorem i181_234 {xs : List Int32} : xtI (xTa xs) 181 234 = some (.iload_n 1, 1) := x_ins (j := 122) kk181 ia181 rfl
theorem i181_235 {xs : List Int32} : xtI (xTa xs) 181 235 = some (.invokevirtual 305, 3) := x_ins (j := 123) kk181 ia181 rfl
theorem i181_238 {xs : List Int32} : xtI (xTa xs) 181 238 = some (.return_, 1) := x_ins (j := 124) kk181 ia181 rfl
