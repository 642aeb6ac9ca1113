theorem kk92 : xK0.getD 92 [] = k92 := rfl
set_option maxRecDepth 100000 in
theorem ia92 : (k92.all fun e => decide (k92.lookup e.1 = some e.2)) = true := by decide +kernel
theorem i92_0 {xs : List Int32} : xtI (xTa xs) 92 0 = some (.aload_n 0, 1) := x_ins (j := 0) kk92 ia92 rfl
theorem i92_1 {xs : List Int32} : xtI (xTa xs) 92 1 = some (.aload_n 1, 1) := x_ins (j := 1) kk92 ia92 rfl
theorem i92_2 {xs : List Int32} : xtI (xTa xs) 92 2 = some (.invokevirtual 71, 3) := x_ins (j := 2) kk92 ia92 rfl
theorem i92_5 {xs : List Int32} : xtI (xTa xs) 92 5 = some (.astore_n 2, 1) := x_ins (j := 3) kk92 ia92 rfl
theorem i92_6 {xs : List Int32} : xtI (xTa xs) 92 6 = some (.aload_n 2, 1) := x_ins (j := 4) kk92 ia92 rfl
theorem i92_7 {xs : List Int32} : xtI (xTa xs) 92 7 = some (.ifnonnull 7, 3) := x_ins (j := 5) kk92 ia92 rfl
theorem i92_10 {xs : List Int32} : xtI (xTa xs) 92 10 = some (.aconst_null, 1) := x_ins (j := 6) kk92 ia92 rfl
theorem i92_11 {xs : List Int32} : xtI (xTa xs) 92 11 = some (.goto 8, 3) := x_ins (j := 7) kk92 ia92 rfl
theorem i92_14 {xs : List Int32} : xtI (xTa xs) 92 14 = some (.aload_n 0, 1) := x_ins (j := 8) kk92 ia92 rfl
theorem i92_15 {xs : List Int32} : xtI (xTa xs) 92 15 = some (.aload_n 2, 1) := x_ins (j := 9) kk92 ia92 rfl
theorem i92_16 {xs : List Int32} : xtI (xTa xs) 92 16 = some (.invokevirtual 75, 3) := x_ins (j := 10) kk92 ia92 rfl
theorem i92_19 {xs : List Int32} : xtI (xTa xs) 92 19 = some (.areturn, 1) := x_ins (j := 11) kk92 ia92 rfl
theorem kk93 : xK0.getD 93 [] = k93 := rfl
set_option maxRecDepth 100000 in
theorem ia93 : (k93.all fun e => decide (k93.lookup e.1 = some e.2)) = true := by decide +kernel
theorem i93_0 {xs : List Int32} : xtI (xTa xs) 93 0 = some (.aload 4, 2) := x_ins (j := 0) kk93 ia93 rfl
theorem i93_2 {xs : List Int32} : xtI (xTa xs) 93 2 = some (.ifnonnull 5, 3) := x_ins (j := 1) kk93 ia93 rfl
theorem i93_5 {xs : List Int32} : xtI (xTa xs) 93 5 = some (.aconst_null, 1) := x_ins (j := 2) kk93 ia93 rfl
theorem i93_6 {xs : List Int32} : xtI (xTa xs) 93 6 = some (.areturn, 1) := x_ins (j := 3) kk93 ia93 rfl
theorem i93_7 {xs : List Int32} : xtI (xTa xs) 93 7 = some (.aload_n 1, 1) := x_ins (j := 4) kk93 ia93 rfl
theorem i93_8 {xs : List Int32} : xtI (xTa xs) 93 8 = some (.bipush 46, 2) := x_ins (j := 5) kk93 ia93 rfl
theorem i93_10 {xs : List Int32} : xtI (xTa xs) 93 10 = some (.iload_n 2, 1) := x_ins (j := 6) kk93 ia93 rfl
theorem i93_11 {xs : List Int32} : xtI (xTa xs) 93 11 = some (.iload_n 3, 1) := x_ins (j := 7) kk93 ia93 rfl
theorem i93_12 {xs : List Int32} : xtI (xTa xs) 93 12 = some (.invokevirtual 78, 3) := x_ins (j := 8) kk93 ia93 rfl
theorem i93_15 {xs : List Int32} : xtI (xTa xs) 93 15 = some (.istore 5, 2) := x_ins (j := 9) kk93 ia93 rfl
theorem i93_17 {xs : List Int32} : xtI (xTa xs) 93 17 = some (.iload 5, 2) := x_ins (j := 10) kk93 ia93 rfl
theorem i93_19 {xs : List Int32} : xtI (xTa xs) 93 19 = some (.iload_n 3, 1) := x_ins (j := 11) kk93 ia93 rfl
theorem i93_20 {xs : List Int32} : xtI (xTa xs) 93 20 = some (.if_icmp .ge 22, 3) := x_ins (j := 12) kk93 ia93 rfl
theorem i93_23 {xs : List Int32} : xtI (xTa xs) 93 23 = some (.aload_n 0, 1) := x_ins (j := 13) kk93 ia93 rfl
theorem i93_24 {xs : List Int32} : xtI (xTa xs) 93 24 = some (.aload_n 0, 1) := x_ins (j := 14) kk93 ia93 rfl
theorem i93_25 {xs : List Int32} : xtI (xTa xs) 93 25 = some (.aload_n 1, 1) := x_ins (j := 15) kk93 ia93 rfl
theorem i93_26 {xs : List Int32} : xtI (xTa xs) 93 26 = some (.iload_n 2, 1) := x_ins (j := 16) kk93 ia93 rfl
theorem i93_27 {xs : List Int32} : xtI (xTa xs) 93 27 = some (.iload 5, 2) := x_ins (j := 17) kk93 ia93 rfl
theorem i93_29 {xs : List Int32} : xtI (xTa xs) 93 29 = some (.invokevirtual 82, 3) := x_ins (j := 18) kk93 ia93 rfl
theorem i93_32 {xs : List Int32} : xtI (xTa xs) 93 32 = some (.aload_n 1, 1) := x_ins (j := 19) kk93 ia93 rfl
theorem i93_33 {xs : List Int32} : xtI (xTa xs) 93 33 = some (.iload 5, 2) := x_ins (j := 20) kk93 ia93 rfl
theorem i93_35 {xs : List Int32} : xtI (xTa xs) 93 35 = some (.iconst 1, 1) := x_ins (j := 21) kk93 ia93 rfl
theorem i93_36 {xs : List Int32} : xtI (xTa xs) 93 36 = some (.iadd, 1) := x_ins (j := 22) kk93 ia93 rfl
theorem i93_37 {xs : List Int32} : xtI (xTa xs) 93 37 = some (.iload_n 3, 1) := x_ins (j := 23) kk93 ia93 rfl
theorem i93_38 {xs : List Int32} : xtI (xTa xs) 93 38 = some (.invokevirtual 68, 3) := x_ins (j := 24) kk93 ia93 rfl
theorem i93_41 {xs : List Int32} : xtI (xTa xs) 93 41 = some (.areturn, 1) := x_ins (j := 25) kk93 ia93 rfl
theorem i93_42 {xs : List Int32} : xtI (xTa xs) 93 42 = some (.aload_n 1, 1) := x_ins (j := 26) kk93 ia93 rfl
theorem i93_43 {xs : List Int32} : xtI (xTa xs) 93 43 = some (.iload_n 2, 1) := x_ins (j := 27) kk93 ia93 rfl
theorem i93_44 {xs : List Int32} : xtI (xTa xs) 93 44 = some (.invokevirtual 86, 3) := x_ins (j := 28) kk93 ia93 rfl
theorem i93_47 {xs : List Int32} : xtI (xTa xs) 93 47 = some (.bipush 65, 2) := x_ins (j := 29) kk93 ia93 rfl
theorem i93_49 {xs : List Int32} : xtI (xTa xs) 93 49 = some (.bipush 90, 2) := x_ins (j := 30) kk93 ia93 rfl
theorem i93_51 {xs : List Int32} : xtI (xTa xs) 93 51 = some (.invokestatic 90, 3) := x_ins (j := 31) kk93 ia93 rfl
theorem i93_54 {xs : List Int32} : xtI (xTa xs) 93 54 = some (.ifCond .eq 11, 3) := x_ins (j := 32) kk93 ia93 rfl
theorem i93_57 {xs : List Int32} : xtI (xTa xs) 93 57 = some (.aload_n 0, 1) := x_ins (j := 33) kk93 ia93 rfl
theorem i93_58 {xs : List Int32} : xtI (xTa xs) 93 58 = some (.aload_n 1, 1) := x_ins (j := 34) kk93 ia93 rfl
theorem i93_59 {xs : List Int32} : xtI (xTa xs) 93 59 = some (.iload_n 2, 1) := x_ins (j := 35) kk93 ia93 rfl
theorem i93_60 {xs : List Int32} : xtI (xTa xs) 93 60 = some (.iload_n 3, 1) := x_ins (j := 36) kk93 ia93 rfl
theorem i93_61 {xs : List Int32} : xtI (xTa xs) 93 61 = some (.invokevirtual 82, 3) := x_ins (j := 37) kk93 ia93 rfl
theorem i93_64 {xs : List Int32} : xtI (xTa xs) 93 64 = some (.areturn, 1) := x_ins (j := 38) kk93 ia93 rfl
theorem i93_65 {xs : List Int32} : xtI (xTa xs) 93 65 = some (.aload_n 0, 1) := x_ins (j := 39) kk93 ia93 rfl
theorem i93_66 {xs : List Int32} : xtI (xTa xs) 93 66 = some (.aload 4, 2) := x_ins (j := 40) kk93 ia93 rfl
theorem i93_68 {xs : List Int32} : xtI (xTa xs) 93 68 = some (.invokevirtual 94, 3) := x_ins (j := 41) kk93 ia93 rfl
theorem i93_71 {xs : List Int32} : xtI (xTa xs) 93 71 = some (.aload_n 1, 1) := x_ins (j := 42) kk93 ia93 rfl
theorem i93_72 {xs : List Int32} : xtI (xTa xs) 93 72 = some (.iload_n 2, 1) := x_ins (j := 43) kk93 ia93 rfl
theorem i93_73 {xs : List Int32} : xtI (xTa xs) 93 73 = some (.iload_n 3, 1) := x_ins (j := 44) kk93 ia93 rfl
theorem i93_74 {xs : List Int32} : xtI (xTa xs) 93 74 = some (.invokevirtual 68, 3) := x_ins (j := 45) kk93 ia93 rfl
theorem i93_77 {xs : List Int32} : xtI (xTa xs) 93 77 = some (.areturn, 1) := x_ins (j := 46) kk93 ia93 rfl
theorem kk94 : xK0.getD 94 [] = k94 := rfl
set_option maxRecDepth 100000 in
theorem ia94 : (k94.all fun e => decide (k94.lookup e.1 = some e.2)) = true := by decide +kernel
theorem i94_0 {xs : List Int32} : xtI (xTa xs) 94 0 = some (.aload_n 2, 1) := x_ins (j := 0) kk94 ia94 rfl
theorem i94_1 {xs : List Int32} : xtI (xTa xs) 94 1 = some (.aconst_null, 1) := x_ins (j := 1) kk94 ia94 rfl
theorem i94_2 {xs : List Int32} : xtI (xTa xs) 94 2 = some (.putfield 98, 3) := x_ins (j := 2) kk94 ia94 rfl
theorem i94_5 {xs : List Int32} : xtI (xTa xs) 94 5 = some (.aload_n 2, 1) := x_ins (j := 3) kk94 ia94 rfl
theorem i94_6 {xs : List Int32} : xtI (xTa xs) 94 6 = some (.invokevirtual 103, 3) := x_ins (j := 4) kk94 ia94 rfl
theorem i94_9 {xs : List Int32} : xtI (xTa xs) 94 9 = some (.ifCond .eq 27, 3) := x_ins (j := 5) kk94 ia94 rfl
theorem i94_12 {xs : List Int32} : xtI (xTa xs) 94 12 = some (.aload_n 2, 1) := x_ins (j := 6) kk94 ia94 rfl
theorem i94_13 {xs : List Int32} : xtI (xTa xs) 94 13 = some (.aload_n 0, 1) := x_ins (j := 7) kk94 ia94 rfl
theorem i94_14 {xs : List Int32} : xtI (xTa xs) 94 14 = some (.aload_n 1, 1) := x_ins (j := 8) kk94 ia94 rfl
theorem i94_15 {xs : List Int32} : xtI (xTa xs) 94 15 = some (.getfield 106, 3) := x_ins (j := 9) kk94 ia94 rfl
theorem i94_18 {xs : List Int32} : xtI (xTa xs) 94 18 = some (.aload_n 2, 1) := x_ins (j := 10) kk94 ia94 rfl
theorem i94_19 {xs : List Int32} : xtI (xTa xs) 94 19 = some (.getfield 111, 3) := x_ins (j := 11) kk94 ia94 rfl
theorem i94_22 {xs : List Int32} : xtI (xTa xs) 94 22 = some (.aload_n 2, 1) := x_ins (j := 12) kk94 ia94 rfl
theorem i94_23 {xs : List Int32} : xtI (xTa xs) 94 23 = some (.getfield 114, 3) := x_ins (j := 13) kk94 ia94 rfl
theorem i94_26 {xs : List Int32} : xtI (xTa xs) 94 26 = some (.aload_n 1, 1) := x_ins (j := 14) kk94 ia94 rfl
theorem i94_27 {xs : List Int32} : xtI (xTa xs) 94 27 = some (.getfield 117, 3) := x_ins (j := 15) kk94 ia94 rfl
theorem i94_30 {xs : List Int32} : xtI (xTa xs) 94 30 = some (.invokevirtual 120, 3) := x_ins (j := 16) kk94 ia94 rfl
theorem i94_33 {xs : List Int32} : xtI (xTa xs) 94 33 = some (.putfield 98, 3) := x_ins (j := 17) kk94 ia94 rfl
theorem i94_36 {xs : List Int32} : xtI (xTa xs) 94 36 = some (.iconst 0, 1) := x_ins (j := 18) kk94 ia94 rfl
theorem i94_37 {xs : List Int32} : xtI (xTa xs) 94 37 = some (.istore_n 3, 1) := x_ins (j := 19) kk94 ia94 rfl
theorem i94_38 {xs : List Int32} : xtI (xTa xs) 94 38 = some (.iload_n 3, 1) := x_ins (j := 20) kk94 ia94 rfl
theorem i94_39 {xs : List Int32} : xtI (xTa xs) 94 39 = some (.aload_n 2, 1) := x_ins (j := 21) kk94 ia94 rfl
theorem i94_40 {xs : List Int32} : xtI (xTa xs) 94 40 = some (.getfield 124, 3) := x_ins (j := 22) kk94 ia94 rfl
theorem i94_43 {xs : List Int32} : xtI (xTa xs) 94 43 = some (.if_icmp .ge 62, 3) := x_ins (j := 23) kk94 ia94 rfl
theorem i94_46 {xs : List Int32} : xtI (xTa xs) 94 46 = some (.aload_n 1, 1) := x_ins (j := 24) kk94 ia94 rfl
theorem i94_47 {xs : List Int32} : xtI (xTa xs) 94 47 = some (.aload_n 2, 1) := x_ins (j := 25) kk94 ia94 rfl
theorem i94_48 {xs : List Int32} : xtI (xTa xs) 94 48 = some (.getfield 127, 3) := x_ins (j := 26) kk94 ia94 rfl
theorem i94_51 {xs : List Int32} : xtI (xTa xs) 94 51 = some (.iload_n 3, 1) := x_ins (j := 27) kk94 ia94 rfl
theorem i94_52 {xs : List Int32} : xtI (xTa xs) 94 52 = some (.iadd, 1) := x_ins (j := 28) kk94 ia94 rfl
theorem i94_53 {xs : List Int32} : xtI (xTa xs) 94 53 = some (.invokevirtual 130, 3) := x_ins (j := 29) kk94 ia94 rfl
theorem i94_56 {xs : List Int32} : xtI (xTa xs) 94 56 = some (.astore 4, 2) := x_ins (j := 30) kk94 ia94 rfl
theorem i94_58 {xs : List Int32} : xtI (xTa xs) 94 58 = some (.aload 4, 2) := x_ins (j := 31) kk94 ia94 rfl
theorem i94_60 {xs : List Int32} : xtI (xTa xs) 94 60 = some (.ifnull 39, 3) := x_ins (j := 32) kk94 ia94 rfl
theorem i94_63 {xs : List Int32} : xtI (xTa xs) 94 63 = some (.aload 4, 2) := x_ins (j := 33) kk94 ia94 rfl
theorem i94_65 {xs : List Int32} : xtI (xTa xs) 94 65 = some (.getfield 134, 3) := x_ins (j := 34) kk94 ia94 rfl
theorem i94_68 {xs : List Int32} : xtI (xTa xs) 94 68 = some (.iconst 2, 1) := x_ins (j := 35) kk94 ia94 rfl
theorem i94_69 {xs : List Int32} : xtI (xTa xs) 94 69 = some (.if_icmp .ne 30, 3) := x_ins (j := 36) kk94 ia94 rfl
theorem i94_72 {xs : List Int32} : xtI (xTa xs) 94 72 = some (.aload 4, 2) := x_ins (j := 37) kk94 ia94 rfl
theorem i94_74 {xs : List Int32} : xtI (xTa xs) 94 74 = some (.aload_n 0, 1) := x_ins (j := 38) kk94 ia94 rfl
theorem i94_75 {xs : List Int32} : xtI (xTa xs) 94 75 = some (.aload_n 1, 1) := x_ins (j := 39) kk94 ia94 rfl
theorem i94_76 {xs : List Int32} : xtI (xTa xs) 94 76 = some (.getfield 106, 3) := x_ins (j := 40) kk94 ia94 rfl
theorem i94_79 {xs : List Int32} : xtI (xTa xs) 94 79 = some (.aload 4, 2) := x_ins (j := 41) kk94 ia94 rfl
theorem i94_81 {xs : List Int32} : xtI (xTa xs) 94 81 = some (.getfield 139, 3) := x_ins (j := 42) kk94 ia94 rfl
theorem i94_84 {xs : List Int32} : xtI (xTa xs) 94 84 = some (.aload 4, 2) := x_ins (j := 43) kk94 ia94 rfl
theorem i94_86 {xs : List Int32} : xtI (xTa xs) 94 86 = some (.getfield 140, 3) := x_ins (j := 44) kk94 ia94 rfl
theorem i94_89 {xs : List Int32} : xtI (xTa xs) 94 89 = some (.aload_n 1, 1) := x_ins (j := 45) kk94 ia94 rfl
theorem i94_90 {xs : List Int32} : xtI (xTa xs) 94 90 = some (.getfield 117, 3) := x_ins (j := 46) kk94 ia94 rfl
theorem i94_93 {xs : List Int32} : xtI (xTa xs) 94 93 = some (.invokevirtual 120, 3) := x_ins (j := 47) kk94 ia94 rfl
theorem i94_96 {xs : List Int32} : xtI (xTa xs) 94 96 = some (.putfield 141, 3) := x_ins (j := 48) kk94 ia94 rfl
theorem i94_99 {xs : List Int32} : xtI (xTa xs) 94 99 = some (.iinc 3 1, 3) := x_ins (j := 49) kk94 ia94 rfl
theorem i94_102 {xs : List Int32} : xtI (xTa xs) 94 102 = some (.goto (-64), 3) := x_ins (j := 50) kk94 ia94 rfl
theorem i94_105 {xs : List Int32} : xtI (xTa xs) 94 105 = some (.return_, 1) := x_ins (j := 51) kk94 ia94 rfl
theorem kk95 : xK0.getD 95 [] = k95 := rfl
set_option maxRecDepth 100000 in
theorem ia95 : (k95.all fun e => decide (k95.lookup e.1 = some e.2)) = true := by decide +kernel
theorem i95_0 {xs : List Int32} : xtI (xTa xs) 95 0 = some (.aload_n 0, 1) := x_ins (j := 0) kk95 ia95 rfl
theorem i95_1 {xs : List Int32} : xtI (xTa xs) 95 1 = some (.invokespecial 3, 3) := x_ins (j := 1) kk95 ia95 rfl
theorem i95_4 {xs : List Int32} : xtI (xTa xs) 95 4 = some (.aload_n 0, 1) := x_ins (j := 2) kk95 ia95 rfl
theorem i95_5 {xs : List Int32} : xtI (xTa xs) 95 5 = some (.iconst 0, 1) := x_ins (j := 3) kk95 ia95 rfl
theorem i95_6 {xs : List Int32} : xtI (xTa xs) 95 6 = some (.iload_n 1, 1) := x_ins (j := 4) kk95 ia95 rfl
theorem i95_7 {xs : List Int32} : xtI (xTa xs) 95 7 = some (.invokestatic 9, 3) := x_ins (j := 5) kk95 ia95 rfl
theorem i95_10 {xs : List Int32} : xtI (xTa xs) 95 10 = some (.newarray .byte, 2) := x_ins (j := 6) kk95 ia95 rfl
theorem i95_12 {xs : List Int32} : xtI (xTa xs) 95 12 = some (.putfield 15, 3) := x_ins (j := 7) kk95 ia95 rfl
theorem i95_15 {xs : List Int32} : xtI (xTa xs) 95 15 = some (.return_, 1) := x_ins (j := 8) kk95 ia95 rfl
theorem kk96 : xK0.getD 96 [] = k96 := rfl
set_option maxRecDepth 100000 in
theorem ia96 : (k96.all fun e => decide (k96.lookup e.1 = some e.2)) = true := by decide +kernel
theorem i96_0 {xs : List Int32} : xtI (xTa xs) 96 0 = some (.iload_n 1, 1) := x_ins (j := 0) kk96 ia96 rfl
theorem i96_1 {xs : List Int32} : xtI (xTa xs) 96 1 = some (.ifCond .lt 11, 3) := x_ins (j := 1) kk96 ia96 rfl
theorem i96_4 {xs : List Int32} : xtI (xTa xs) 96 4 = some (.iload_n 1, 1) := x_ins (j := 2) kk96 ia96 rfl
theorem i96_5 {xs : List Int32} : xtI (xTa xs) 96 5 = some (.aload_n 0, 1) := x_ins (j := 3) kk96 ia96 rfl
theorem i96_6 {xs : List Int32} : xtI (xTa xs) 96 6 = some (.getfield 21, 3) := x_ins (j := 4) kk96 ia96 rfl
theorem i96_9 {xs : List Int32} : xtI (xTa xs) 96 9 = some (.if_icmp .lt 7, 3) := x_ins (j := 5) kk96 ia96 rfl
theorem i96_12 {xs : List Int32} : xtI (xTa xs) 96 12 = some (.iconst (-1), 1) := x_ins (j := 6) kk96 ia96 rfl
theorem i96_13 {xs : List Int32} : xtI (xTa xs) 96 13 = some (.goto 13, 3) := x_ins (j := 7) kk96 ia96 rfl
theorem i96_16 {xs : List Int32} : xtI (xTa xs) 96 16 = some (.aload_n 0, 1) := x_ins (j := 8) kk96 ia96 rfl
theorem i96_17 {xs : List Int32} : xtI (xTa xs) 96 17 = some (.getfield 15, 3) := x_ins (j := 9) kk96 ia96 rfl
theorem i96_20 {xs : List Int32} : xtI (xTa xs) 96 20 = some (.iload_n 1, 1) := x_ins (j := 10) kk96 ia96 rfl
theorem i96_21 {xs : List Int32} : xtI (xTa xs) 96 21 = some (.baload, 1) := x_ins (j := 11) kk96 ia96 rfl
theorem i96_22 {xs : List Int32} : xtI (xTa xs) 96 22 = some (.sipush 255, 3) := x_ins (j := 12) kk96 ia96 rfl
theorem i96_25 {xs : List Int32} : xtI (xTa xs) 96 25 = some (.iand, 1) := x_ins (j := 13) kk96 ia96 rfl
theorem i96_26 {xs : List Int32} : xtI (xTa xs) 96 26 = some (.ireturn, 1) := x_ins (j := 14) kk96 ia96 rfl
theorem kk97 : xK0.getD 97 [] = k97 := rfl
set_option maxRecDepth 100000 in
theorem ia97 : (k97.all fun e => decide (k97.lookup e.1 = some e.2)) = true := by decide +kernel
theorem i97_0 {xs : List Int32} : xtI (xTa xs) 97 0 = some (.aload_n 0, 1) := x_ins (j := 0) kk97 ia97 rfl
theorem i97_1 {xs : List Int32} : xtI (xTa xs) 97 1 = some (.getfield 21, 3) := x_ins (j := 1) kk97 ia97 rfl
theorem i97_4 {xs : List Int32} : xtI (xTa xs) 97 4 = some (.aload_n 0, 1) := x_ins (j := 2) kk97 ia97 rfl
theorem i97_5 {xs : List Int32} : xtI (xTa xs) 97 5 = some (.getfield 15, 3) := x_ins (j := 3) kk97 ia97 rfl
theorem i97_8 {xs : List Int32} : xtI (xTa xs) 97 8 = some (.arraylength, 1) := x_ins (j := 4) kk97 ia97 rfl
theorem i97_9 {xs : List Int32} : xtI (xTa xs) 97 9 = some (.if_icmp .lt 5, 3) := x_ins (j := 5) kk97 ia97 rfl
theorem i97_12 {xs : List Int32} : xtI (xTa xs) 97 12 = some (.iconst 0, 1) := x_ins (j := 6) kk97 ia97 rfl
theorem i97_13 {xs : List Int32} : xtI (xTa xs) 97 13 = some (.ireturn, 1) := x_ins (j := 7) kk97 ia97 rfl
theorem i97_14 {xs : List Int32} : xtI (xTa xs) 97 14 = some (.aload_n 0, 1) := x_ins (j := 8) kk97 ia97 rfl
theorem i97_15 {xs : List Int32} : xtI (xTa xs) 97 15 = some (.getfield 15, 3) := x_ins (j := 9) kk97 ia97 rfl
theorem i97_18 {xs : List Int32} : xtI (xTa xs) 97 18 = some (.aload_n 0, 1) := x_ins (j := 10) kk97 ia97 rfl
theorem i97_19 {xs : List Int32} : xtI (xTa xs) 97 19 = some (.getfield 21, 3) := x_ins (j := 11) kk97 ia97 rfl
theorem i97_22 {xs : List Int32} : xtI (xTa xs) 97 22 = some (.iload_n 1, 1) := x_ins (j := 12) kk97 ia97 rfl
theorem i97_23 {xs : List Int32} : xtI (xTa xs) 97 23 = some (.i2b, 1) := x_ins (j := 13) kk97 ia97 rfl
theorem i97_24 {xs : List Int32} : xtI (xTa xs) 97 24 = some (.bastore, 1) := x_ins (j := 14) kk97 ia97 rfl
theorem i97_25 {xs : List Int32} : xtI (xTa xs) 97 25 = some (.aload_n 0, 1) := x_ins (j := 15) kk97 ia97 rfl
theorem i97_26 {xs : List Int32} : xtI (xTa xs) 97 26 = some (.dup, 1) := x_ins (j := 16) kk97 ia97 rfl
theorem i97_27 {xs : List Int32} : xtI (xTa xs) 97 27 = some (.getfield 21, 3) := x_ins (j := 17) kk97 ia97 rfl
theorem i97_30 {xs : List Int32} : xtI (xTa xs) 97 30 = some (.iconst 1, 1) := x_ins (j := 18) kk97 ia97 rfl
theorem i97_31 {xs : List Int32} : xtI (xTa xs) 97 31 = some (.iadd, 1) := x_ins (j := 19) kk97 ia97 rfl
theorem i97_32 {xs : List Int32} : xtI (xTa xs) 97 32 = some (.putfield 21, 3) := x_ins (j := 20) kk97 ia97 rfl
theorem i97_35 {xs : List Int32} : xtI (xTa xs) 97 35 = some (.iconst 1, 1) := x_ins (j := 21) kk97 ia97 rfl
theorem i97_36 {xs : List Int32} : xtI (xTa xs) 97 36 = some (.ireturn, 1) := x_ins (j := 22) kk97 ia97 rfl
theorem kk98 : xK0.getD 98 [] = k98 := rfl
set_option maxRecDepth 100000 in
theorem ia98 : (k98.all fun e => decide (k98.lookup e.1 = some e.2)) = true := by decide +kernel
theorem i98_0 {xs : List Int32} : xtI (xTa xs) 98 0 = some (.bipush 24, 2) := x_ins (j := 0) kk98 ia98 rfl
theorem i98_2 {xs : List Int32} : xtI (xTa xs) 98 2 = some (.istore_n 2, 1) := x_ins (j := 1) kk98 ia98 rfl
theorem i98_3 {xs : List Int32} : xtI (xTa xs) 98 3 = some (.iload_n 2, 1) := x_ins (j := 2) kk98 ia98 rfl
theorem i98_4 {xs : List Int32} : xtI (xTa xs) 98 4 = some (.ifCond .lt 17, 3) := x_ins (j := 3) kk98 ia98 rfl
theorem i98_7 {xs : List Int32} : xtI (xTa xs) 98 7 = some (.aload_n 0, 1) := x_ins (j := 4) kk98 ia98 rfl
theorem i98_8 {xs : List Int32} : xtI (xTa xs) 98 8 = some (.iload_n 1, 1) := x_ins (j := 5) kk98 ia98 rfl
theorem i98_9 {xs : List Int32} : xtI (xTa xs) 98 9 = some (.iload_n 2, 1) := x_ins (j := 6) kk98 ia98 rfl
theorem i98_10 {xs : List Int32} : xtI (xTa xs) 98 10 = some (.iushr, 1) := x_ins (j := 7) kk98 ia98 rfl
theorem i98_11 {xs : List Int32} : xtI (xTa xs) 98 11 = some (.invokevirtual 25, 3) := x_ins (j := 8) kk98 ia98 rfl
theorem i98_14 {xs : List Int32} : xtI (xTa xs) 98 14 = some (.pop, 1) := x_ins (j := 9) kk98 ia98 rfl
theorem i98_15 {xs : List Int32} : xtI (xTa xs) 98 15 = some (.iinc 2 (-8), 3) := x_ins (j := 10) kk98 ia98 rfl
theorem i98_18 {xs : List Int32} : xtI (xTa xs) 98 18 = some (.goto (-15), 3) := x_ins (j := 11) kk98 ia98 rfl
theorem i98_21 {xs : List Int32} : xtI (xTa xs) 98 21 = some (.return_, 1) := x_ins (j := 12) kk98 ia98 rfl
theorem kk99 : xK0.getD 99 [] = k99 := rfl
set_option maxRecDepth 100000 in
theorem ia99 : (k99.all fun e => decide (k99.lookup e.1 = some e.2)) = true := by decide +kernel
theorem i99_0 {xs : List Int32} : xtI (xTa xs) 99 0 = some (.iconst 0, 1) := x_ins (j := 0) kk99 ia99 rfl
theorem i99_1 {xs : List Int32} : xtI (xTa xs) 99 1 = some (.istore_n 2, 1) := x_ins (j := 1) kk99 ia99 rfl
theorem i99_2 {xs : List Int32} : xtI (xTa xs) 99 2 = some (.iload_n 2, 1) := x_ins (j := 2) kk99 ia99 rfl
theorem i99_3 {xs : List Int32} : xtI (xTa xs) 99 3 = some (.aload_n 1, 1) := x_ins (j := 3) kk99 ia99 rfl
theorem i99_4 {xs : List Int32} : xtI (xTa xs) 99 4 = some (.invokevirtual 29, 3) := x_ins (j := 4) kk99 ia99 rfl
theorem i99_7 {xs : List Int32} : xtI (xTa xs) 99 7 = some (.if_icmp .ge 19, 3) := x_ins (j := 5) kk99 ia99 rfl
theorem i99_10 {xs : List Int32} : xtI (xTa xs) 99 10 = some (.aload_n 0, 1) := x_ins (j := 6) kk99 ia99 rfl
theorem i99_11 {xs : List Int32} : xtI (xTa xs) 99 11 = some (.aload_n 1, 1) := x_ins (j := 7) kk99 ia99 rfl
theorem i99_12 {xs : List Int32} : xtI (xTa xs) 99 12 = some (.iload_n 2, 1) := x_ins (j := 8) kk99 ia99 rfl
theorem i99_13 {xs : List Int32} : xtI (xTa xs) 99 13 = some (.invokevirtual 35, 3) := x_ins (j := 9) kk99 ia99 rfl
theorem i99_16 {xs : List Int32} : xtI (xTa xs) 99 16 = some (.invokevirtual 25, 3) := x_ins (j := 10) kk99 ia99 rfl
theorem i99_19 {xs : List Int32} : xtI (xTa xs) 99 19 = some (.pop, 1) := x_ins (j := 11) kk99 ia99 rfl
theorem i99_20 {xs : List Int32} : xtI (xTa xs) 99 20 = some (.iinc 2 1, 3) := x_ins (j := 12) kk99 ia99 rfl
theorem i99_23 {xs : List Int32} : xtI (xTa xs) 99 23 = some (.goto (-21), 3) := x_ins (j := 13) kk99 ia99 rfl
theorem i99_26 {xs : List Int32} : xtI (xTa xs) 99 26 = some (.return_, 1) := x_ins (j := 14) kk99 ia99 rfl
theorem kk100 : xK0.getD 100 [] = k100 := rfl
set_option maxRecDepth 100000 in
theorem ia100 : (k100.all fun e => decide (k100.lookup e.1 = some e.2)) = true := by decide +kernel
theorem i100_0 {xs : List Int32} : xtI (xTa xs) 100 0 = some (.iload_n 2, 1) := x_ins (j := 0) kk100 ia100 rfl
theorem i100_1 {xs : List Int32} : xtI (xTa xs) 100 1 = some (.istore 4, 2) := x_ins (j := 1) kk100 ia100 rfl
theorem i100_3 {xs : List Int32} : xtI (xTa xs) 100 3 = some (.iload 4, 2) := x_ins (j := 2) kk100 ia100 rfl
theorem i100_5 {xs : List Int32} : xtI (xTa xs) 100 5 = some (.iload_n 3, 1) := x_ins (j := 3) kk100 ia100 rfl
theorem i100_6 {xs : List Int32} : xtI (xTa xs) 100 6 = some (.if_icmp .ge 20, 3) := x_ins (j := 4) kk100 ia100 rfl
theorem i100_9 {xs : List Int32} : xtI (xTa xs) 100 9 = some (.aload_n 0, 1) := x_ins (j := 5) kk100 ia100 rfl
theorem i100_10 {xs : List Int32} : xtI (xTa xs) 100 10 = some (.aload_n 1, 1) := x_ins (j := 6) kk100 ia100 rfl
theorem i100_11 {xs : List Int32} : xtI (xTa xs) 100 11 = some (.iload 4, 2) := x_ins (j := 7) kk100 ia100 rfl
theorem i100_13 {xs : List Int32} : xtI (xTa xs) 100 13 = some (.invokevirtual 39, 3) := x_ins (j := 8) kk100 ia100 rfl
theorem i100_16 {xs : List Int32} : xtI (xTa xs) 100 16 = some (.invokevirtual 25, 3) := x_ins (j := 9) kk100 ia100 rfl
theorem i100_19 {xs : List Int32} : xtI (xTa xs) 100 19 = some (.pop, 1) := x_ins (j := 10) kk100 ia100 rfl
theorem i100_20 {xs : List Int32} : xtI (xTa xs) 100 20 = some (.iinc 4 1, 3) := x_ins (j := 11) kk100 ia100 rfl
theorem i100_23 {xs : List Int32} : xtI (xTa xs) 100 23 = some (.goto (-20), 3) := x_ins (j := 12) kk100 ia100 rfl
theorem i100_26 {xs : List Int32} : xtI (xTa xs) 100 26 = some (.return_, 1) := x_ins (j := 13) kk100 ia100 rfl
theorem kk101 : xK0.getD 101 [] = k101 := rfl
set_option maxRecDepth 100000 in
theorem ia101 : (k101.all fun e => decide (k101.lookup e.1 = some e.2)) = true := by decide +kernel
theorem i101_0 {xs : List Int32} : xtI (xTa xs) 101 0 = some (.iload_n 1, 1) := x_ins (j := 0) kk101 ia101 rfl
theorem i101_1 {xs : List Int32} : xtI (xTa xs) 101 1 = some (.ifCond .lt 16, 3) := x_ins (j := 1) kk101 ia101 rfl
theorem i101_4 {xs : List Int32} : xtI (xTa xs) 101 4 = some (.iload_n 1, 1) := x_ins (j := 2) kk101 ia101 rfl
theorem i101_5 {xs : List Int32} : xtI (xTa xs) 101 5 = some (.aload_n 0, 1) := x_ins (j := 3) kk101 ia101 rfl
theorem i101_6 {xs : List Int32} : xtI (xTa xs) 101 6 = some (.getfield 21, 3) := x_ins (j := 4) kk101 ia101 rfl
theorem i101_9 {xs : List Int32} : xtI (xTa xs) 101 9 = some (.if_icmp .ge 8, 3) := x_ins (j := 5) kk101 ia101 rfl
theorem i101_12 {xs : List Int32} : xtI (xTa xs) 101 12 = some (.aload_n 0, 1) := x_ins (j := 6) kk101 ia101 rfl
theorem i101_13 {xs : List Int32} : xtI (xTa xs) 101 13 = some (.iload_n 1, 1) := x_ins (j := 7) kk101 ia101 rfl
theorem i101_14 {xs : List Int32} : xtI (xTa xs) 101 14 = some (.putfield 21, 3) := x_ins (j := 8) kk101 ia101 rfl
theorem i101_17 {xs : List Int32} : xtI (xTa xs) 101 17 = some (.return_, 1) := x_ins (j := 9) kk101 ia101 rfl
theorem kk102 : xK0.getD 102 [] = k102 := rfl
set_option maxRecDepth 100000 in
theorem ia102 : (k102.all fun e => decide (k102.lookup e.1 = some e.2)) = true := by decide +kernel
theorem i102_0 {xs : List Int32} : xtI (xTa xs) 102 0 = some (.aload_n 0, 1) := x_ins (j := 0) kk102 ia102 rfl
theorem i102_1 {xs : List Int32} : xtI (xTa xs) 102 1 = some (.iconst 0, 1) := x_ins (j := 1) kk102 ia102 rfl
theorem i102_2 {xs : List Int32} : xtI (xTa xs) 102 2 = some (.putfield 21, 3) := x_ins (j := 2) kk102 ia102 rfl
theorem i102_5 {xs : List Int32} : xtI (xTa xs) 102 5 = some (.aload_n 0, 1) := x_ins (j := 3) kk102 ia102 rfl
theorem i102_6 {xs : List Int32} : xtI (xTa xs) 102 6 = some (.aload_n 1, 1) := x_ins (j := 4) kk102 ia102 rfl
theorem i102_7 {xs : List Int32} : xtI (xTa xs) 102 7 = some (.iconst 0, 1) := x_ins (j := 5) kk102 ia102 rfl
theorem i102_8 {xs : List Int32} : xtI (xTa xs) 102 8 = some (.aload_n 1, 1) := x_ins (j := 6) kk102 ia102 rfl
theorem i102_9 {xs : List Int32} : xtI (xTa xs) 102 9 = some (.getfield 21, 3) := x_ins (j := 7) kk102 ia102 rfl
theorem i102_12 {xs : List Int32} : xtI (xTa xs) 102 12 = some (.invokevirtual 43, 3) := x_ins (j := 8) kk102 ia102 rfl
theorem i102_15 {xs : List Int32} : xtI (xTa xs) 102 15 = some (.return_, 1) := x_ins (j := 9) kk102 ia102 rfl
theorem kk103 : xK0.getD 103 [] = k103 := rfl
set_option maxRecDepth 100000 in
theorem ia103 : (k103.all fun e => decide (k103.lookup e.1 = some e.2)) = true := by decide +kernel
theorem i103_0 {xs : List Int32} : xtI (xTa xs) 103 0 = some (.iload_n 2, 1) := x_ins (j := 0) kk103 ia103 rfl
theorem i103_1 {xs : List Int32} : xtI (xTa xs) 103 1 = some (.ifCond .lt 21, 3) := x_ins (j := 1) kk103 ia103 rfl
theorem i103_4 {xs : List Int32} : xtI (xTa xs) 103 4 = some (.iload_n 3, 1) := x_ins (j := 2) kk103 ia103 rfl
theorem i103_5 {xs : List Int32} : xtI (xTa xs) 103 5 = some (.aload_n 1, 1) := x_ins (j := 3) kk103 ia103 rfl
theorem i103_6 {xs : List Int32} : xtI (xTa xs) 103 6 = some (.getfield 21, 3) := x_ins (j := 4) kk103 ia103 rfl
theorem i103_9 {xs : List Int32} : xtI (xTa xs) 103 9 = some (.if_icmp .gt 13, 3) := x_ins (j := 5) kk103 ia103 rfl
theorem i103_12 {xs : List Int32} : xtI (xTa xs) 103 12 = some (.iload_n 3, 1) := x_ins (j := 6) kk103 ia103 rfl
theorem i103_13 {xs : List Int32} : xtI (xTa xs) 103 13 = some (.iload_n 2, 1) := x_ins (j := 7) kk103 ia103 rfl
theorem i103_14 {xs : List Int32} : xtI (xTa xs) 103 14 = some (.isub, 1) := x_ins (j := 8) kk103 ia103 rfl
theorem i103_15 {xs : List Int32} : xtI (xTa xs) 103 15 = some (.aload_n 0, 1) := x_ins (j := 9) kk103 ia103 rfl
theorem i103_16 {xs : List Int32} : xtI (xTa xs) 103 16 = some (.getfield 21, 3) := x_ins (j := 10) kk103 ia103 rfl
theorem i103_19 {xs : List Int32} : xtI (xTa xs) 103 19 = some (.if_icmp .eq 5, 3) := x_ins (j := 11) kk103 ia103 rfl
theorem i103_22 {xs : List Int32} : xtI (xTa xs) 103 22 = some (.iconst 0, 1) := x_ins (j := 12) kk103 ia103 rfl
theorem i103_23 {xs : List Int32} : xtI (xTa xs) 103 23 = some (.ireturn, 1) := x_ins (j := 13) kk103 ia103 rfl
theorem i103_24 {xs : List Int32} : xtI (xTa xs) 103 24 = some (.iconst 0, 1) := x_ins (j := 14) kk103 ia103 rfl
theorem i103_25 {xs : List Int32} : xtI (xTa xs) 103 25 = some (.istore 4, 2) := x_ins (j := 15) kk103 ia103 rfl
theorem i103_27 {xs : List Int32} : xtI (xTa xs) 103 27 = some (.iload 4, 2) := x_ins (j := 16) kk103 ia103 rfl
theorem i103_29 {xs : List Int32} : xtI (xTa xs) 103 29 = some (.aload_n 0, 1) := x_ins (j := 17) kk103 ia103 rfl
theorem i103_30 {xs : List Int32} : xtI (xTa xs) 103 30 = some (.getfield 21, 3) := x_ins (j := 18) kk103 ia103 rfl
theorem i103_33 {xs : List Int32} : xtI (xTa xs) 103 33 = some (.if_icmp .ge 30, 3) := x_ins (j := 19) kk103 ia103 rfl
theorem i103_36 {xs : List Int32} : xtI (xTa xs) 103 36 = some (.aload_n 0, 1) := x_ins (j := 20) kk103 ia103 rfl
theorem i103_37 {xs : List Int32} : xtI (xTa xs) 103 37 = some (.getfield 15, 3) := x_ins (j := 21) kk103 ia103 rfl
theorem i103_40 {xs : List Int32} : xtI (xTa xs) 103 40 = some (.iload 4, 2) := x_ins (j := 22) kk103 ia103 rfl
theorem i103_42 {xs : List Int32} : xtI (xTa xs) 103 42 = some (.baload, 1) := x_ins (j := 23) kk103 ia103 rfl
theorem i103_43 {xs : List Int32} : xtI (xTa xs) 103 43 = some (.aload_n 1, 1) := x_ins (j := 24) kk103 ia103 rfl
theorem i103_44 {xs : List Int32} : xtI (xTa xs) 103 44 = some (.getfield 15, 3) := x_ins (j := 25) kk103 ia103 rfl
theorem i103_47 {xs : List Int32} : xtI (xTa xs) 103 47 = some (.iload_n 2, 1) := x_ins (j := 26) kk103 ia103 rfl
theorem i103_48 {xs : List Int32} : xtI (xTa xs) 103 48 = some (.iload 4, 2) := x_ins (j := 27) kk103 ia103 rfl
theorem i103_50 {xs : List Int32} : xtI (xTa xs) 103 50 = some (.iadd, 1) := x_ins (j := 28) kk103 ia103 rfl
theorem i103_51 {xs : List Int32} : xtI (xTa xs) 103 51 = some (.baload, 1) := x_ins (j := 29) kk103 ia103 rfl
theorem i103_52 {xs : List Int32} : xtI (xTa xs) 103 52 = some (.if_icmp .eq 5, 3) := x_ins (j := 30) kk103 ia103 rfl
theorem i103_55 {xs : List Int32} : xtI (xTa xs) 103 55 = some (.iconst 0, 1) := x_ins (j := 31) kk103 ia103 rfl
theorem i103_56 {xs : List Int32} : xtI (xTa xs) 103 56 = some (.ireturn, 1) := x_ins (j := 32) kk103 ia103 rfl
theorem i103_57 {xs : List Int32} : xtI (xTa xs) 103 57 = some (.iinc 4 1, 3) := x_ins (j := 33) kk103 ia103 rfl
theorem i103_60 {xs : List Int32} : xtI (xTa xs) 103 60 = some (.goto (-33), 3) := x_ins (j := 34) kk103 ia103 rfl
theorem i103_63 {xs : List Int32} : xtI (xTa xs) 103 63 = some (.iconst 1, 1) := x_ins (j := 35) kk103 ia103 rfl
theorem i103_64 {xs : List Int32} : xtI (xTa xs) 103 64 = some (.ireturn, 1) := x_ins (j := 36) kk103 ia103 rfl
theorem kk104 : xK0.getD 104 [] = k104 := rfl
set_option maxRecDepth 100000 in
theorem ia104 : (k104.all fun e => decide (k104.lookup e.1 = some e.2)) = true := by decide +kernel
theorem i104_0 {xs : List Int32} : xtI (xTa xs) 104 0 = some (.iconst 0, 1) := x_ins (j := 0) kk104 ia104 rfl
theorem i104_1 {xs : List Int32} : xtI (xTa xs) 104 1 = some (.istore_n 3, 1) := x_ins (j := 1) kk104 ia104 rfl
theorem i104_2 {xs : List Int32} : xtI (xTa xs) 104 2 = some (.iload_n 3, 1) := x_ins (j := 2) kk104 ia104 rfl
theorem i104_3 {xs : List Int32} : xtI (xTa xs) 104 3 = some (.aload_n 2, 1) := x_ins (j := 3) kk104 ia104 rfl
theorem i104_4 {xs : List Int32} : xtI (xTa xs) 104 4 = some (.invokevirtual 29, 3) := x_ins (j := 4) kk104 ia104 rfl
theorem i104_7 {xs : List Int32} : xtI (xTa xs) 104 7 = some (.if_icmp .ge 26, 3) := x_ins (j := 5) kk104 ia104 rfl
theorem i104_10 {xs : List Int32} : xtI (xTa xs) 104 10 = some (.aload_n 0, 1) := x_ins (j := 6) kk104 ia104 rfl
theorem i104_11 {xs : List Int32} : xtI (xTa xs) 104 11 = some (.iload_n 1, 1) := x_ins (j := 7) kk104 ia104 rfl
theorem i104_12 {xs : List Int32} : xtI (xTa xs) 104 12 = some (.iload_n 3, 1) := x_ins (j := 8) kk104 ia104 rfl
theorem i104_13 {xs : List Int32} : xtI (xTa xs) 104 13 = some (.iadd, 1) := x_ins (j := 9) kk104 ia104 rfl
theorem i104_14 {xs : List Int32} : xtI (xTa xs) 104 14 = some (.invokevirtual 39, 3) := x_ins (j := 10) kk104 ia104 rfl
theorem i104_17 {xs : List Int32} : xtI (xTa xs) 104 17 = some (.aload_n 2, 1) := x_ins (j := 11) kk104 ia104 rfl
theorem i104_18 {xs : List Int32} : xtI (xTa xs) 104 18 = some (.iload_n 3, 1) := x_ins (j := 12) kk104 ia104 rfl
theorem i104_19 {xs : List Int32} : xtI (xTa xs) 104 19 = some (.invokevirtual 35, 3) := x_ins (j := 13) kk104 ia104 rfl
theorem i104_22 {xs : List Int32} : xtI (xTa xs) 104 22 = some (.if_icmp .eq 5, 3) := x_ins (j := 14) kk104 ia104 rfl
theorem i104_25 {xs : List Int32} : xtI (xTa xs) 104 25 = some (.iconst 0, 1) := x_ins (j := 15) kk104 ia104 rfl
theorem i104_26 {xs : List Int32} : xtI (xTa xs) 104 26 = some (.ireturn, 1) := x_ins (j := 16) kk104 ia104 rfl
theorem i104_27 {xs : List Int32} : xtI (xTa xs) 104 27 = some (.iinc 3 1, 3) := x_ins (j := 17) kk104 ia104 rfl
theorem i104_30 {xs : List Int32} : xtI (xTa xs) 104 30 = some (.goto (-28), 3) := x_ins (j := 18) kk104 ia104 rfl
theorem i104_33 {xs : List Int32} : xtI (xTa xs) 104 33 = some (.iconst 1, 1) := x_ins (j := 19) kk104 ia104 rfl
theorem i104_34 {xs : List Int32} : xtI (xTa xs) 104 34 = some (.ireturn, 1) := x_ins (j := 20) kk104 ia104 rfl
theorem kk105 : xK0.getD 105 [] = k105 := rfl
set_option maxRecDepth 100000 in
theorem ia105 : (k105.all fun e => decide (k105.lookup e.1 = some e.2)) = true := by decide +kernel
theorem i105_0 {xs : List Int32} : xtI (xTa xs) 105 0 = some (.iload_n 2, 1) := x_ins (j := 0) kk105 ia105 rfl
theorem i105_1 {xs : List Int32} : xtI (xTa xs) 105 1 = some (.istore 4, 2) := x_ins (j := 1) kk105 ia105 rfl
theorem i105_3 {xs : List Int32} : xtI (xTa xs) 105 3 = some (.iload 4, 2) := x_ins (j := 2) kk105 ia105 rfl
theorem i105_5 {xs : List Int32} : xtI (xTa xs) 105 5 = some (.iload_n 3, 1) := x_ins (j := 3) kk105 ia105 rfl
theorem i105_6 {xs : List Int32} : xtI (xTa xs) 105 6 = some (.if_icmp .ge 19, 3) := x_ins (j := 4) kk105 ia105 rfl
theorem i105_9 {xs : List Int32} : xtI (xTa xs) 105 9 = some (.aload_n 0, 1) := x_ins (j := 5) kk105 ia105 rfl
theorem i105_10 {xs : List Int32} : xtI (xTa xs) 105 10 = some (.iload 4, 2) := x_ins (j := 6) kk105 ia105 rfl
theorem i105_12 {xs : List Int32} : xtI (xTa xs) 105 12 = some (.invokevirtual 39, 3) := x_ins (j := 7) kk105 ia105 rfl
theorem i105_15 {xs : List Int32} : xtI (xTa xs) 105 15 = some (.iload_n 1, 1) := x_ins (j := 8) kk105 ia105 rfl
theorem i105_16 {xs : List Int32} : xtI (xTa xs) 105 16 = some (.if_icmp .eq 9, 3) := x_ins (j := 9) kk105 ia105 rfl
theorem i105_19 {xs : List Int32} : xtI (xTa xs) 105 19 = some (.iinc 4 1, 3) := x_ins (j := 10) kk105 ia105 rfl
theorem i105_22 {xs : List Int32} : xtI (xTa xs) 105 22 = some (.goto (-19), 3) := x_ins (j := 11) kk105 ia105 rfl
theorem i105_25 {xs : List Int32} : xtI (xTa xs) 105 25 = some (.iload 4, 2) := x_ins (j := 12) kk105 ia105 rfl
theorem i105_27 {xs : List Int32} : xtI (xTa xs) 105 27 = some (.ireturn, 1) := x_ins (j := 13) kk105 ia105 rfl
theorem kk106 : xK0.getD 106 [] = k106 := rfl
set_option maxRecDepth 100000 in
theorem ia106 : (k106.all fun e => decide (k106.lookup e.1 = some e.2)) = true := by decide +kernel
theorem i106_0 {xs : List Int32} : xtI (xTa xs) 106 0 = some (.iload_n 1, 1) := x_ins (j := 0) kk106 ia106 rfl
theorem i106_1 {xs : List Int32} : xtI (xTa xs) 106 1 = some (.istore_n 3, 1) := x_ins (j := 1) kk106 ia106 rfl
theorem i106_2 {xs : List Int32} : xtI (xTa xs) 106 2 = some (.iload_n 3, 1) := x_ins (j := 2) kk106 ia106 rfl
theorem i106_3 {xs : List Int32} : xtI (xTa xs) 106 3 = some (.iload_n 2, 1) := x_ins (j := 3) kk106 ia106 rfl
theorem i106_4 {xs : List Int32} : xtI (xTa xs) 106 4 = some (.if_icmp .ge 19, 3) := x_ins (j := 4) kk106 ia106 rfl
theorem i106_7 {xs : List Int32} : xtI (xTa xs) 106 7 = some (.aload_n 0, 1) := x_ins (j := 5) kk106 ia106 rfl
theorem i106_8 {xs : List Int32} : xtI (xTa xs) 106 8 = some (.iload_n 3, 1) := x_ins (j := 6) kk106 ia106 rfl
theorem i106_9 {xs : List Int32} : xtI (xTa xs) 106 9 = some (.invokevirtual 39, 3) := x_ins (j := 7) kk106 ia106 rfl
theorem i106_12 {xs : List Int32} : xtI (xTa xs) 106 12 = some (.bipush 32, 2) := x_ins (j := 8) kk106 ia106 rfl
theorem i106_14 {xs : List Int32} : xtI (xTa xs) 106 14 = some (.if_icmp .ne 9, 3) := x_ins (j := 9) kk106 ia106 rfl
theorem i106_17 {xs : List Int32} : xtI (xTa xs) 106 17 = some (.iinc 3 1, 3) := x_ins (j := 10) kk106 ia106 rfl
theorem i106_20 {xs : List Int32} : xtI (xTa xs) 106 20 = some (.goto (-18), 3) := x_ins (j := 11) kk106 ia106 rfl
theorem i106_23 {xs : List Int32} : xtI (xTa xs) 106 23 = some (.iload_n 3, 1) := x_ins (j := 12) kk106 ia106 rfl
theorem i106_24 {xs : List Int32} : xtI (xTa xs) 106 24 = some (.ireturn, 1) := x_ins (j := 13) kk106 ia106 rfl
theorem kk107 : xK0.getD 107 [] = k107 := rfl
set_option maxRecDepth 100000 in
theorem ia107 : (k107.all fun e => decide (k107.lookup e.1 = some e.2)) = true := by decide +kernel
theorem i107_0 {xs : List Int32} : xtI (xTa xs) 107 0 = some (.iload_n 2, 1) := x_ins (j := 0) kk107 ia107 rfl
theorem i107_1 {xs : List Int32} : xtI (xTa xs) 107 1 = some (.iload_n 1, 1) := x_ins (j := 1) kk107 ia107 rfl
theorem i107_2 {xs : List Int32} : xtI (xTa xs) 107 2 = some (.isub, 1) := x_ins (j := 2) kk107 ia107 rfl
theorem i107_3 {xs : List Int32} : xtI (xTa xs) 107 3 = some (.bipush 10, 2) := x_ins (j := 3) kk107 ia107 rfl
theorem i107_5 {xs : List Int32} : xtI (xTa xs) 107 5 = some (.if_icmp .gt 14, 3) := x_ins (j := 4) kk107 ia107 rfl
theorem i107_8 {xs : List Int32} : xtI (xTa xs) 107 8 = some (.aload_n 0, 1) := x_ins (j := 5) kk107 ia107 rfl
theorem i107_9 {xs : List Int32} : xtI (xTa xs) 107 9 = some (.iload_n 1, 1) := x_ins (j := 6) kk107 ia107 rfl
theorem i107_10 {xs : List Int32} : xtI (xTa xs) 107 10 = some (.invokevirtual 39, 3) := x_ins (j := 7) kk107 ia107 rfl
theorem i107_13 {xs : List Int32} : xtI (xTa xs) 107 13 = some (.invokestatic 47, 3) := x_ins (j := 8) kk107 ia107 rfl
theorem i107_16 {xs : List Int32} : xtI (xTa xs) 107 16 = some (.ifCond .ne 5, 3) := x_ins (j := 9) kk107 ia107 rfl
theorem i107_19 {xs : List Int32} : xtI (xTa xs) 107 19 = some (.iconst 0, 1) := x_ins (j := 10) kk107 ia107 rfl
theorem i107_20 {xs : List Int32} : xtI (xTa xs) 107 20 = some (.ireturn, 1) := x_ins (j := 11) kk107 ia107 rfl
theorem i107_21 {xs : List Int32} : xtI (xTa xs) 107 21 = some (.iload_n 1, 1) := x_ins (j := 12) kk107 ia107 rfl
theorem i107_22 {xs : List Int32} : xtI (xTa xs) 107 22 = some (.istore_n 3, 1) := x_ins (j := 13) kk107 ia107 rfl
theorem i107_23 {xs : List Int32} : xtI (xTa xs) 107 23 = some (.iload_n 3, 1) := x_ins (j := 14) kk107 ia107 rfl
theorem i107_24 {xs : List Int32} : xtI (xTa xs) 107 24 = some (.iload_n 2, 1) := x_ins (j := 15) kk107 ia107 rfl
theorem i107_25 {xs : List Int32} : xtI (xTa xs) 107 25 = some (.if_icmp .ge 33, 3) := x_ins (j := 16) kk107 ia107 rfl
theorem i107_28 {xs : List Int32} : xtI (xTa xs) 107 28 = some (.aload_n 0, 1) := x_ins (j := 17) kk107 ia107 rfl
theorem i107_29 {xs : List Int32} : xtI (xTa xs) 107 29 = some (.iload_n 3, 1) := x_ins (j := 18) kk107 ia107 rfl
theorem i107_30 {xs : List Int32} : xtI (xTa xs) 107 30 = some (.invokevirtual 39, 3) := x_ins (j := 19) kk107 ia107 rfl
theorem i107_33 {xs : List Int32} : xtI (xTa xs) 107 33 = some (.invokestatic 47, 3) := x_ins (j := 20) kk107 ia107 rfl
theorem i107_36 {xs : List Int32} : xtI (xTa xs) 107 36 = some (.ifCond .ne 16, 3) := x_ins (j := 21) kk107 ia107 rfl
theorem i107_39 {xs : List Int32} : xtI (xTa xs) 107 39 = some (.aload_n 0, 1) := x_ins (j := 22) kk107 ia107 rfl
theorem i107_40 {xs : List Int32} : xtI (xTa xs) 107 40 = some (.iload_n 3, 1) := x_ins (j := 23) kk107 ia107 rfl
theorem i107_41 {xs : List Int32} : xtI (xTa xs) 107 41 = some (.invokevirtual 39, 3) := x_ins (j := 24) kk107 ia107 rfl
theorem i107_44 {xs : List Int32} : xtI (xTa xs) 107 44 = some (.invokestatic 50, 3) := x_ins (j := 25) kk107 ia107 rfl
theorem i107_47 {xs : List Int32} : xtI (xTa xs) 107 47 = some (.ifCond .ne 5, 3) := x_ins (j := 26) kk107 ia107 rfl
theorem i107_50 {xs : List Int32} : xtI (xTa xs) 107 50 = some (.iconst 0, 1) := x_ins (j := 27) kk107 ia107 rfl
theorem i107_51 {xs : List Int32} : xtI (xTa xs) 107 51 = some (.ireturn, 1) := x_ins (j := 28) kk107 ia107 rfl
theorem i107_52 {xs : List Int32} : xtI (xTa xs) 107 52 = some (.iinc 3 1, 3) := x_ins (j := 29) kk107 ia107 rfl
theorem i107_55 {xs : List Int32} : xtI (xTa xs) 107 55 = some (.goto (-32), 3) := x_ins (j := 30) kk107 ia107 rfl
theorem i107_58 {xs : List Int32} : xtI (xTa xs) 107 58 = some (.iload_n 1, 1) := x_ins (j := 31) kk107 ia107 rfl
theorem i107_59 {xs : List Int32} : xtI (xTa xs) 107 59 = some (.iload_n 2, 1) := x_ins (j := 32) kk107 ia107 rfl
theorem i107_60 {xs : List Int32} : xtI (xTa xs) 107 60 = some (.if_icmp .ge 7, 3) := x_ins (j := 33) kk107 ia107 rfl
theorem i107_63 {xs : List Int32} : xtI (xTa xs) 107 63 = some (.iconst 1, 1) := x_ins (j := 34) kk107 ia107 rfl
theorem i107_64 {xs : List Int32} : xtI (xTa xs) 107 64 = some (.goto 4, 3) := x_ins (j := 35) kk107 ia107 rfl
theorem i107_67 {xs : List Int32} : xtI (xTa xs) 107 67 = some (.iconst 0, 1) := x_ins (j := 36) kk107 ia107 rfl
theorem i107_68 {xs : List Int32} : xtI (xTa xs) 107 68 = some (.ireturn, 1) := x_ins (j := 37) kk107 ia107 rfl
theorem kk108 : xK0.getD 108 [] = k108 := rfl
set_option maxRecDepth 100000 in
theorem ia108 : (k108.all fun e => decide (k108.lookup e.1 = some e.2)) = true := by decide +kernel
theorem i108_0 {xs : List Int32} : xtI (xTa xs) 108 0 = some (.aload_n 0, 1) := x_ins (j := 0) kk108 ia108 rfl
theorem i108_1 {xs : List Int32} : xtI (xTa xs) 108 1 = some (.iconst 0, 1) := x_ins (j := 1) kk108 ia108 rfl
theorem i108_2 {xs : List Int32} : xtI (xTa xs) 108 2 = some (.aload_n 0, 1) := x_ins (j := 2) kk108 ia108 rfl
theorem i108_3 {xs : List Int32} : xtI (xTa xs) 108 3 = some (.getfield 21, 3) := x_ins (j := 3) kk108 ia108 rfl
theorem i108_6 {xs : List Int32} : xtI (xTa xs) 108 6 = some (.invokevirtual 53, 3) := x_ins (j := 4) kk108 ia108 rfl
theorem i108_9 {xs : List Int32} : xtI (xTa xs) 108 9 = some (.ifCond .eq 20, 3) := x_ins (j := 5) kk108 ia108 rfl
theorem i108_12 {xs : List Int32} : xtI (xTa xs) 108 12 = some (.aload_n 0, 1) := x_ins (j := 6) kk108 ia108 rfl
theorem i108_13 {xs : List Int32} : xtI (xTa xs) 108 13 = some (.iconst 0, 1) := x_ins (j := 7) kk108 ia108 rfl
theorem i108_14 {xs : List Int32} : xtI (xTa xs) 108 14 = some (.invokevirtual 39, 3) := x_ins (j := 8) kk108 ia108 rfl
theorem i108_17 {xs : List Int32} : xtI (xTa xs) 108 17 = some (.iload_n 1, 1) := x_ins (j := 9) kk108 ia108 rfl
theorem i108_18 {xs : List Int32} : xtI (xTa xs) 108 18 = some (.iload_n 2, 1) := x_ins (j := 10) kk108 ia108 rfl
theorem i108_19 {xs : List Int32} : xtI (xTa xs) 108 19 = some (.invokestatic 57, 3) := x_ins (j := 11) kk108 ia108 rfl
theorem i108_22 {xs : List Int32} : xtI (xTa xs) 108 22 = some (.ifCond .eq 7, 3) := x_ins (j := 12) kk108 ia108 rfl
theorem i108_25 {xs : List Int32} : xtI (xTa xs) 108 25 = some (.iconst 1, 1) := x_ins (j := 13) kk108 ia108 rfl
theorem i108_26 {xs : List Int32} : xtI (xTa xs) 108 26 = some (.goto 4, 3) := x_ins (j := 14) kk108 ia108 rfl
theorem i108_29 {xs : List Int32} : xtI (xTa xs) 108 29 = some (.iconst 0, 1) := x_ins (j := 15) kk108 ia108 rfl
theorem i108_30 {xs : List Int32} : xtI (xTa xs) 108 30 = some (.ireturn, 1) := x_ins (j := 16) kk108 ia108 rfl
theorem kk109 : xK0.getD 109 [] = k109 := rfl
set_option maxRecDepth 100000 in
theorem ia109 : (k109.all fun e => decide (k109.lookup e.1 = some e.2)) = true := by decide +kernel
theorem i109_0 {xs : List Int32} : xtI (xTa xs) 109 0 = some (.aload_n 0, 1) := x_ins (j := 0) kk109 ia109 rfl
theorem i109_1 {xs : List Int32} : xtI (xTa xs) 109 1 = some (.bipush 46, 2) := x_ins (j := 1) kk109 ia109 rfl
theorem i109_3 {xs : List Int32} : xtI (xTa xs) 109 3 = some (.iload_n 1, 1) := x_ins (j := 2) kk109 ia109 rfl
theorem i109_4 {xs : List Int32} : xtI (xTa xs) 109 4 = some (.iload_n 2, 1) := x_ins (j := 3) kk109 ia109 rfl
theorem i109_5 {xs : List Int32} : xtI (xTa xs) 109 5 = some (.invokevirtual 61, 3) := x_ins (j := 4) kk109 ia109 rfl
theorem i109_8 {xs : List Int32} : xtI (xTa xs) 109 8 = some (.istore_n 3, 1) := x_ins (j := 5) kk109 ia109 rfl
theorem i109_9 {xs : List Int32} : xtI (xTa xs) 109 9 = some (.aload_n 0, 1) := x_ins (j := 6) kk109 ia109 rfl
theorem i109_10 {xs : List Int32} : xtI (xTa xs) 109 10 = some (.iload_n 1, 1) := x_ins (j := 7) kk109 ia109 rfl
theorem i109_11 {xs : List Int32} : xtI (xTa xs) 109 11 = some (.iload_n 3, 1) := x_ins (j := 8) kk109 ia109 rfl
theorem i109_12 {xs : List Int32} : xtI (xTa xs) 109 12 = some (.invokevirtual 53, 3) := x_ins (j := 9) kk109 ia109 rfl
theorem i109_15 {xs : List Int32} : xtI (xTa xs) 109 15 = some (.ifCond .eq 23, 3) := x_ins (j := 10) kk109 ia109 rfl
theorem i109_18 {xs : List Int32} : xtI (xTa xs) 109 18 = some (.iload_n 3, 1) := x_ins (j := 11) kk109 ia109 rfl
theorem i109_19 {xs : List Int32} : xtI (xTa xs) 109 19 = some (.iload_n 2, 1) := x_ins (j := 12) kk109 ia109 rfl
theorem i109_20 {xs : List Int32} : xtI (xTa xs) 109 20 = some (.if_icmp .eq 14, 3) := x_ins (j := 13) kk109 ia109 rfl
theorem i109_23 {xs : List Int32} : xtI (xTa xs) 109 23 = some (.aload_n 0, 1) := x_ins (j := 14) kk109 ia109 rfl
theorem i109_24 {xs : List Int32} : xtI (xTa xs) 109 24 = some (.iload_n 3, 1) := x_ins (j := 15) kk109 ia109 rfl
theorem i109_25 {xs : List Int32} : xtI (xTa xs) 109 25 = some (.iconst 1, 1) := x_ins (j := 16) kk109 ia109 rfl
theorem i109_26 {xs : List Int32} : xtI (xTa xs) 109 26 = some (.iadd, 1) := x_ins (j := 17) kk109 ia109 rfl
theorem i109_27 {xs : List Int32} : xtI (xTa xs) 109 27 = some (.iload_n 2, 1) := x_ins (j := 18) kk109 ia109 rfl
theorem i109_28 {xs : List Int32} : xtI (xTa xs) 109 28 = some (.invokevirtual 53, 3) := x_ins (j := 19) kk109 ia109 rfl
theorem i109_31 {xs : List Int32} : xtI (xTa xs) 109 31 = some (.ifCond .eq 7, 3) := x_ins (j := 20) kk109 ia109 rfl
theorem i109_34 {xs : List Int32} : xtI (xTa xs) 109 34 = some (.iconst 1, 1) := x_ins (j := 21) kk109 ia109 rfl
theorem i109_35 {xs : List Int32} : xtI (xTa xs) 109 35 = some (.goto 4, 3) := x_ins (j := 22) kk109 ia109 rfl
theorem i109_38 {xs : List Int32} : xtI (xTa xs) 109 38 = some (.iconst 0, 1) := x_ins (j := 23) kk109 ia109 rfl
theorem i109_39 {xs : List Int32} : xtI (xTa xs) 109 39 = some (.ireturn, 1) := x_ins (j := 24) kk109 ia109 rfl
theorem kk110 : xK0.getD 110 [] = k110 := rfl
set_option maxRecDepth 100000 in
theorem ia110 : (k110.all fun e => decide (k110.lookup e.1 = some e.2)) = true := by decide +kernel
theorem i110_0 {xs : List Int32} : xtI (xTa xs) 110 0 = some (.iload_n 1, 1) := x_ins (j := 0) kk110 ia110 rfl
theorem i110_1 {xs : List Int32} : xtI (xTa xs) 110 1 = some (.istore_n 3, 1) := x_ins (j := 1) kk110 ia110 rfl
theorem i110_2 {xs : List Int32} : xtI (xTa xs) 110 2 = some (.iload_n 3, 1) := x_ins (j := 2) kk110 ia110 rfl
theorem i110_3 {xs : List Int32} : xtI (xTa xs) 110 3 = some (.iload_n 2, 1) := x_ins (j := 3) kk110 ia110 rfl
theorem i110_4 {xs : List Int32} : xtI (xTa xs) 110 4 = some (.if_icmp .ge 22, 3) := x_ins (j := 4) kk110 ia110 rfl
theorem i110_7 {xs : List Int32} : xtI (xTa xs) 110 7 = some (.aload_n 0, 1) := x_ins (j := 5) kk110 ia110 rfl
theorem i110_8 {xs : List Int32} : xtI (xTa xs) 110 8 = some (.iload_n 3, 1) := x_ins (j := 6) kk110 ia110 rfl
theorem i110_9 {xs : List Int32} : xtI (xTa xs) 110 9 = some (.invokevirtual 39, 3) := x_ins (j := 7) kk110 ia110 rfl
theorem i110_12 {xs : List Int32} : xtI (xTa xs) 110 12 = some (.invokestatic 50, 3) := x_ins (j := 8) kk110 ia110 rfl
theorem i110_15 {xs : List Int32} : xtI (xTa xs) 110 15 = some (.ifCond .ne 5, 3) := x_ins (j := 9) kk110 ia110 rfl
theorem i110_18 {xs : List Int32} : xtI (xTa xs) 110 18 = some (.iconst 0, 1) := x_ins (j := 10) kk110 ia110 rfl
theorem i110_19 {xs : List Int32} : xtI (xTa xs) 110 19 = some (.ireturn, 1) := x_ins (j := 11) kk110 ia110 rfl
theorem i110_20 {xs : List Int32} : xtI (xTa xs) 110 20 = some (.iinc 3 1, 3) := x_ins (j := 12) kk110 ia110 rfl
theorem i110_23 {xs : List Int32} : xtI (xTa xs) 110 23 = some (.goto (-21), 3) := x_ins (j := 13) kk110 ia110 rfl
theorem i110_26 {xs : List Int32} : xtI (xTa xs) 110 26 = some (.iload_n 2, 1) := x_ins (j := 14) kk110 ia110 rfl
theorem i110_27 {xs : List Int32} : xtI (xTa xs) 110 27 = some (.iload_n 1, 1) := x_ins (j := 15) kk110 ia110 rfl
theorem i110_28 {xs : List Int32} : xtI (xTa xs) 110 28 = some (.isub, 1) := x_ins (j := 16) kk110 ia110 rfl
theorem i110_29 {xs : List Int32} : xtI (xTa xs) 110 29 = some (.iconst 1, 1) := x_ins (j := 17) kk110 ia110 rfl
theorem i110_30 {xs : List Int32} : xtI (xTa xs) 110 30 = some (.iconst 4, 1) := x_ins (j := 18) kk110 ia110 rfl
theorem i110_31 {xs : List Int32} : xtI (xTa xs) 110 31 = some (.invokestatic 57, 3) := x_ins (j := 19) kk110 ia110 rfl
theorem i110_34 {xs : List Int32} : xtI (xTa xs) 110 34 = some (.ireturn, 1) := x_ins (j := 20) kk110 ia110 rfl
theorem kk111 : xK0.getD 111 [] = k111 := rfl
set_option maxRecDepth 100000 in
theorem ia111 : (k111.all fun e => decide (k111.lookup e.1 = some e.2)) = true := by decide +kernel
theorem i111_0 {xs : List Int32} : xtI (xTa xs) 111 0 = some (.aload_n 0, 1) := x_ins (j := 0) kk111 ia111 rfl
theorem i111_1 {xs : List Int32} : xtI (xTa xs) 111 1 = some (.invokespecial 1, 3) := x_ins (j := 1) kk111 ia111 rfl
theorem i111_4 {xs : List Int32} : xtI (xTa xs) 111 4 = some (.aload_n 0, 1) := x_ins (j := 2) kk111 ia111 rfl
theorem i111_5 {xs : List Int32} : xtI (xTa xs) 111 5 = some (.new 7, 3) := x_ins (j := 3) kk111 ia111 rfl
theorem i111_8 {xs : List Int32} : xtI (xTa xs) 111 8 = some (.dup, 1) := x_ins (j := 4) kk111 ia111 rfl
theorem i111_9 {xs : List Int32} : xtI (xTa xs) 111 9 = some (.sipush 600, 3) := x_ins (j := 5) kk111 ia111 rfl
theorem i111_12 {xs : List Int32} : xtI (xTa xs) 111 12 = some (.invokespecial 11, 3) := x_ins (j := 6) kk111 ia111 rfl
theorem i111_15 {xs : List Int32} : xtI (xTa xs) 111 15 = some (.putfield 14, 3) := x_ins (j := 7) kk111 ia111 rfl
theorem i111_18 {xs : List Int32} : xtI (xTa xs) 111 18 = some (.aload_n 0, 1) := x_ins (j := 8) kk111 ia111 rfl
theorem i111_19 {xs : List Int32} : xtI (xTa xs) 111 19 = some (.new 18, 3) := x_ins (j := 9) kk111 ia111 rfl
theorem i111_22 {xs : List Int32} : xtI (xTa xs) 111 22 = some (.dup, 1) := x_ins (j := 10) kk111 ia111 rfl
theorem i111_23 {xs : List Int32} : xtI (xTa xs) 111 23 = some (.invokespecial 20, 3) := x_ins (j := 11) kk111 ia111 rfl
theorem i111_26 {xs : List Int32} : xtI (xTa xs) 111 26 = some (.putfield 21, 3) := x_ins (j := 12) kk111 ia111 rfl
theorem i111_29 {xs : List Int32} : xtI (xTa xs) 111 29 = some (.aload_n 0, 1) := x_ins (j := 13) kk111 ia111 rfl
theorem i111_30 {xs : List Int32} : xtI (xTa xs) 111 30 = some (.new 25, 3) := x_ins (j := 14) kk111 ia111 rfl
theorem i111_33 {xs : List Int32} : xtI (xTa xs) 111 33 = some (.dup, 1) := x_ins (j := 15) kk111 ia111 rfl
theorem i111_34 {xs : List Int32} : xtI (xTa xs) 111 34 = some (.invokespecial 27, 3) := x_ins (j := 16) kk111 ia111 rfl
theorem i111_37 {xs : List Int32} : xtI (xTa xs) 111 37 = some (.putfield 28, 3) := x_ins (j := 17) kk111 ia111 rfl
theorem i111_40 {xs : List Int32} : xtI (xTa xs) 111 40 = some (.aload_n 0, 1) := x_ins (j := 18) kk111 ia111 rfl
theorem i111_41 {xs : List Int32} : xtI (xTa xs) 111 41 = some (.new 32, 3) := x_ins (j := 19) kk111 ia111 rfl
theorem i111_44 {xs : List Int32} : xtI (xTa xs) 111 44 = some (.dup, 1) := x_ins (j := 20) kk111 ia111 rfl
theorem i111_45 {xs : List Int32} : xtI (xTa xs) 111 45 = some (.invokespecial 34, 3) := x_ins (j := 21) kk111 ia111 rfl
theorem i111_48 {xs : List Int32} : xtI (xTa xs) 111 48 = some (.putfield 35, 3) := x_ins (j := 22) kk111 ia111 rfl
theorem i111_51 {xs : List Int32} : xtI (xTa xs) 111 51 = some (.aload_n 0, 1) := x_ins (j := 23) kk111 ia111 rfl
theorem i111_52 {xs : List Int32} : xtI (xTa xs) 111 52 = some (.new 39, 3) := x_ins (j := 24) kk111 ia111 rfl
theorem i111_55 {xs : List Int32} : xtI (xTa xs) 111 55 = some (.dup, 1) := x_ins (j := 25) kk111 ia111 rfl
theorem i111_56 {xs : List Int32} : xtI (xTa xs) 111 56 = some (.invokespecial 41, 3) := x_ins (j := 26) kk111 ia111 rfl
theorem i111_59 {xs : List Int32} : xtI (xTa xs) 111 59 = some (.putfield 42, 3) := x_ins (j := 27) kk111 ia111 rfl
theorem i111_62 {xs : List Int32} : xtI (xTa xs) 111 62 = some (.aload_n 0, 1) := x_ins (j := 28) kk111 ia111 rfl
theorem i111_63 {xs : List Int32} : xtI (xTa xs) 111 63 = some (.new 46, 3) := x_ins (j := 29) kk111 ia111 rfl
theorem i111_66 {xs : List Int32} : xtI (xTa xs) 111 66 = some (.dup, 1) := x_ins (j := 30) kk111 ia111 rfl
theorem i111_67 {xs : List Int32} : xtI (xTa xs) 111 67 = some (.invokespecial 48, 3) := x_ins (j := 31) kk111 ia111 rfl
theorem i111_70 {xs : List Int32} : xtI (xTa xs) 111 70 = some (.putfield 49, 3) := x_ins (j := 32) kk111 ia111 rfl
theorem i111_73 {xs : List Int32} : xtI (xTa xs) 111 73 = some (.aload_n 0, 1) := x_ins (j := 33) kk111 ia111 rfl
theorem i111_74 {xs : List Int32} : xtI (xTa xs) 111 74 = some (.new 53, 3) := x_ins (j := 34) kk111 ia111 rfl
theorem i111_77 {xs : List Int32} : xtI (xTa xs) 111 77 = some (.dup, 1) := x_ins (j := 35) kk111 ia111 rfl
theorem i111_78 {xs : List Int32} : xtI (xTa xs) 111 78 = some (.invokespecial 55, 3) := x_ins (j := 36) kk111 ia111 rfl
theorem i111_81 {xs : List Int32} : xtI (xTa xs) 111 81 = some (.putfield 56, 3) := x_ins (j := 37) kk111 ia111 rfl
theorem i111_84 {xs : List Int32} : xtI (xTa xs) 111 84 = some (.aload_n 0, 1) := x_ins (j := 38) kk111 ia111 rfl
theorem i111_85 {xs : List Int32} : xtI (xTa xs) 111 85 = some (.new 53, 3) := x_ins (j := 39) kk111 ia111 rfl
theorem i111_88 {xs : List Int32} : xtI (xTa xs) 111 88 = some (.dup, 1) := x_ins (j := 40) kk111 ia111 rfl
theorem i111_89 {xs : List Int32} : xtI (xTa xs) 111 89 = some (.invokespecial 55, 3) := x_ins (j := 41) kk111 ia111 rfl
theorem i111_92 {xs : List Int32} : xtI (xTa xs) 111 92 = some (.putfield 60, 3) := x_ins (j := 42) kk111 ia111 rfl
theorem i111_95 {xs : List Int32} : xtI (xTa xs) 111 95 = some (.return_, 1) := x_ins (j := 43) kk111 ia111 rfl
theorem kk112 : xK0.getD 112 [] = k112 := rfl
set_option maxRecDepth 100000 in
theorem ia112 : (k112.all fun e => decide (k112.lookup e.1 = some e.2)) = true := by decide +kernel
theorem i112_0 {xs : List Int32} : xtI (xTa xs) 112 0 = some (.aload_n 0, 1) := x_ins (j := 0) kk112 ia112 rfl
theorem i112_1 {xs : List Int32} : xtI (xTa xs) 112 1 = some (.getfield 14, 3) := x_ins (j := 1) kk112 ia112 rfl
theorem i112_4 {xs : List Int32} : xtI (xTa xs) 112 4 = some (.getfield 63, 3) := x_ins (j := 2) kk112 ia112 rfl
theorem i112_7 {xs : List Int32} : xtI (xTa xs) 112 7 = some (.bipush 20, 2) := x_ins (j := 3) kk112 ia112 rfl
theorem i112_9 {xs : List Int32} : xtI (xTa xs) 112 9 = some (.iadd, 1) := x_ins (j := 4) kk112 ia112 rfl
theorem i112_10 {xs : List Int32} : xtI (xTa xs) 112 10 = some (.sipush 600, 3) := x_ins (j := 5) kk112 ia112 rfl
theorem i112_13 {xs : List Int32} : xtI (xTa xs) 112 13 = some (.if_icmp .le 6, 3) := x_ins (j := 6) kk112 ia112 rfl
theorem i112_16 {xs : List Int32} : xtI (xTa xs) 112 16 = some (.bipush (-3), 2) := x_ins (j := 7) kk112 ia112 rfl
theorem i112_18 {xs : List Int32} : xtI (xTa xs) 112 18 = some (.ireturn, 1) := x_ins (j := 8) kk112 ia112 rfl
theorem i112_19 {xs : List Int32} : xtI (xTa xs) 112 19 = some (.aload_n 0, 1) := x_ins (j := 9) kk112 ia112 rfl
theorem i112_20 {xs : List Int32} : xtI (xTa xs) 112 20 = some (.getfield 14, 3) := x_ins (j := 10) kk112 ia112 rfl
theorem i112_23 {xs : List Int32} : xtI (xTa xs) 112 23 = some (.iload_n 1, 1) := x_ins (j := 11) kk112 ia112 rfl
theorem i112_24 {xs : List Int32} : xtI (xTa xs) 112 24 = some (.invokevirtual 67, 3) := x_ins (j := 12) kk112 ia112 rfl
theorem i112_27 {xs : List Int32} : xtI (xTa xs) 112 27 = some (.aload_n 0, 1) := x_ins (j := 13) kk112 ia112 rfl
theorem i112_28 {xs : List Int32} : xtI (xTa xs) 112 28 = some (.getfield 14, 3) := x_ins (j := 14) kk112 ia112 rfl
theorem i112_31 {xs : List Int32} : xtI (xTa xs) 112 31 = some (.iload_n 2, 1) := x_ins (j := 15) kk112 ia112 rfl
theorem i112_32 {xs : List Int32} : xtI (xTa xs) 112 32 = some (.invokevirtual 67, 3) := x_ins (j := 16) kk112 ia112 rfl
theorem i112_35 {xs : List Int32} : xtI (xTa xs) 112 35 = some (.aload_n 0, 1) := x_ins (j := 17) kk112 ia112 rfl
theorem i112_36 {xs : List Int32} : xtI (xTa xs) 112 36 = some (.getfield 14, 3) := x_ins (j := 18) kk112 ia112 rfl
theorem i112_39 {xs : List Int32} : xtI (xTa xs) 112 39 = some (.iload_n 3, 1) := x_ins (j := 19) kk112 ia112 rfl
theorem i112_40 {xs : List Int32} : xtI (xTa xs) 112 40 = some (.invokevirtual 67, 3) := x_ins (j := 20) kk112 ia112 rfl
theorem i112_43 {xs : List Int32} : xtI (xTa xs) 112 43 = some (.aload_n 0, 1) := x_ins (j := 21) kk112 ia112 rfl
theorem i112_44 {xs : List Int32} : xtI (xTa xs) 112 44 = some (.getfield 14, 3) := x_ins (j := 22) kk112 ia112 rfl
theorem i112_47 {xs : List Int32} : xtI (xTa xs) 112 47 = some (.iload 4, 2) := x_ins (j := 23) kk112 ia112 rfl
theorem i112_49 {xs : List Int32} : xtI (xTa xs) 112 49 = some (.invokevirtual 67, 3) := x_ins (j := 24) kk112 ia112 rfl
theorem i112_52 {xs : List Int32} : xtI (xTa xs) 112 52 = some (.aload_n 0, 1) := x_ins (j := 25) kk112 ia112 rfl
theorem i112_53 {xs : List Int32} : xtI (xTa xs) 112 53 = some (.getfield 14, 3) := x_ins (j := 26) kk112 ia112 rfl
theorem i112_56 {xs : List Int32} : xtI (xTa xs) 112 56 = some (.iload 5, 2) := x_ins (j := 27) kk112 ia112 rfl
theorem i112_58 {xs : List Int32} : xtI (xTa xs) 112 58 = some (.invokevirtual 67, 3) := x_ins (j := 28) kk112 ia112 rfl
theorem i112_61 {xs : List Int32} : xtI (xTa xs) 112 61 = some (.aload_n 0, 1) := x_ins (j := 29) kk112 ia112 rfl
theorem i112_62 {xs : List Int32} : xtI (xTa xs) 112 62 = some (.getfield 14, 3) := x_ins (j := 30) kk112 ia112 rfl
theorem i112_65 {xs : List Int32} : xtI (xTa xs) 112 65 = some (.getfield 63, 3) := x_ins (j := 31) kk112 ia112 rfl
theorem i112_68 {xs : List Int32} : xtI (xTa xs) 112 68 = some (.ireturn, 1) := x_ins (j := 32) kk112 ia112 rfl
theorem kk113 : xK0.getD 113 [] = k113 := rfl
set_option maxRecDepth 100000 in
theorem ia113 : (k113.all fun e => decide (k113.lookup e.1 = some e.2)) = true := by decide +kernel
theorem i113_0 {xs : List Int32} : xtI (xTa xs) 113 0 = some (.aload_n 0, 1) := x_ins (j := 0) kk113 ia113 rfl
theorem i113_1 {xs : List Int32} : xtI (xTa xs) 113 1 = some (.getfield 14, 3) := x_ins (j := 1) kk113 ia113 rfl
theorem i113_4 {xs : List Int32} : xtI (xTa xs) 113 4 = some (.getfield 63, 3) := x_ins (j := 2) kk113 ia113 rfl
theorem i113_7 {xs : List Int32} : xtI (xTa xs) 113 7 = some (.istore_n 2, 1) := x_ins (j := 3) kk113 ia113 rfl
theorem i113_8 {xs : List Int32} : xtI (xTa xs) 113 8 = some (.iload_n 1, 1) := x_ins (j := 4) kk113 ia113 rfl
theorem i113_9 {xs : List Int32} : xtI (xTa xs) 113 9 = some (.ifCond .lt 8, 3) := x_ins (j := 5) kk113 ia113 rfl
theorem i113_12 {xs : List Int32} : xtI (xTa xs) 113 12 = some (.iload_n 1, 1) := x_ins (j := 6) kk113 ia113 rfl
theorem i113_13 {xs : List Int32} : xtI (xTa xs) 113 13 = some (.iload_n 2, 1) := x_ins (j := 7) kk113 ia113 rfl
theorem i113_14 {xs : List Int32} : xtI (xTa xs) 113 14 = some (.if_icmp .le 5, 3) := x_ins (j := 8) kk113 ia113 rfl
theorem i113_17 {xs : List Int32} : xtI (xTa xs) 113 17 = some (.iconst (-1), 1) := x_ins (j := 9) kk113 ia113 rfl
theorem i113_18 {xs : List Int32} : xtI (xTa xs) 113 18 = some (.ireturn, 1) := x_ins (j := 10) kk113 ia113 rfl
theorem i113_19 {xs : List Int32} : xtI (xTa xs) 113 19 = some (.aload_n 0, 1) := x_ins (j := 11) kk113 ia113 rfl
theorem i113_20 {xs : List Int32} : xtI (xTa xs) 113 20 = some (.getfield 14, 3) := x_ins (j := 12) kk113 ia113 rfl
theorem i113_23 {xs : List Int32} : xtI (xTa xs) 113 23 = some (.iload_n 1, 1) := x_ins (j := 13) kk113 ia113 rfl
theorem i113_24 {xs : List Int32} : xtI (xTa xs) 113 24 = some (.invokevirtual 70, 3) := x_ins (j := 14) kk113 ia113 rfl
theorem i113_27 {xs : List Int32} : xtI (xTa xs) 113 27 = some (.iload_n 2, 1) := x_ins (j := 15) kk113 ia113 rfl
theorem i113_28 {xs : List Int32} : xtI (xTa xs) 113 28 = some (.ireturn, 1) := x_ins (j := 16) kk113 ia113 rfl
theorem kk114 : xK0.getD 114 [] = k114 := rfl
set_option maxRecDepth 100000 in
theorem ia114 : (k114.all fun e => decide (k114.lookup e.1 = some e.2)) = true := by decide +kernel
theorem i114_0 {xs : List Int32} : xtI (xTa xs) 114 0 = some (.aload_n 0, 1) := x_ins (j := 0) kk114 ia114 rfl
theorem i114_1 {xs : List Int32} : xtI (xTa xs) 114 1 = some (.getfield 21, 3) := x_ins (j := 1) kk114 ia114 rfl
theorem i114_4 {xs : List Int32} : xtI (xTa xs) 114 4 = some (.iload_n 1, 1) := x_ins (j := 2) kk114 ia114 rfl
theorem i114_5 {xs : List Int32} : xtI (xTa xs) 114 5 = some (.invokevirtual 73, 3) := x_ins (j := 3) kk114 ia114 rfl
theorem i114_8 {xs : List Int32} : xtI (xTa xs) 114 8 = some (.astore_n 2, 1) := x_ins (j := 4) kk114 ia114 rfl
theorem i114_9 {xs : List Int32} : xtI (xTa xs) 114 9 = some (.iconst (-1), 1) := x_ins (j := 5) kk114 ia114 rfl
theorem i114_10 {xs : List Int32} : xtI (xTa xs) 114 10 = some (.istore_n 3, 1) := x_ins (j := 6) kk114 ia114 rfl
theorem i114_11 {xs : List Int32} : xtI (xTa xs) 114 11 = some (.aload_n 2, 1) := x_ins (j := 7) kk114 ia114 rfl
theorem i114_12 {xs : List Int32} : xtI (xTa xs) 114 12 = some (.ifnonnull 8, 3) := x_ins (j := 8) kk114 ia114 rfl
theorem i114_15 {xs : List Int32} : xtI (xTa xs) 114 15 = some (.iload_n 1, 1) := x_ins (j := 9) kk114 ia114 rfl
theorem i114_16 {xs : List Int32} : xtI (xTa xs) 114 16 = some (.iconst (-1), 1) := x_ins (j := 10) kk114 ia114 rfl
theorem i114_17 {xs : List Int32} : xtI (xTa xs) 114 17 = some (.if_icmp .ne 54, 3) := x_ins (j := 11) kk114 ia114 rfl
theorem i114_20 {xs : List Int32} : xtI (xTa xs) 114 20 = some (.aload_n 0, 1) := x_ins (j := 12) kk114 ia114 rfl
theorem i114_21 {xs : List Int32} : xtI (xTa xs) 114 21 = some (.getfield 14, 3) := x_ins (j := 13) kk114 ia114 rfl
theorem i114_24 {xs : List Int32} : xtI (xTa xs) 114 24 = some (.bipush 65, 2) := x_ins (j := 14) kk114 ia114 rfl
theorem i114_26 {xs : List Int32} : xtI (xTa xs) 114 26 = some (.bipush 90, 2) := x_ins (j := 15) kk114 ia114 rfl
theorem i114_28 {xs : List Int32} : xtI (xTa xs) 114 28 = some (.invokevirtual 77, 3) := x_ins (j := 16) kk114 ia114 rfl
theorem i114_31 {xs : List Int32} : xtI (xTa xs) 114 31 = some (.ifCond .eq 40, 3) := x_ins (j := 17) kk114 ia114 rfl
theorem i114_34 {xs : List Int32} : xtI (xTa xs) 114 34 = some (.aload_n 0, 1) := x_ins (j := 18) kk114 ia114 rfl
theorem i114_35 {xs : List Int32} : xtI (xTa xs) 114 35 = some (.getfield 21, 3) := x_ins (j := 19) kk114 ia114 rfl
theorem i114_38 {xs : List Int32} : xtI (xTa xs) 114 38 = some (.aload_n 0, 1) := x_ins (j := 20) kk114 ia114 rfl
theorem i114_39 {xs : List Int32} : xtI (xTa xs) 114 39 = some (.getfield 14, 3) := x_ins (j := 21) kk114 ia114 rfl
theorem i114_42 {xs : List Int32} : xtI (xTa xs) 114 42 = some (.iconst 0, 1) := x_ins (j := 22) kk114 ia114 rfl
theorem i114_43 {xs : List Int32} : xtI (xTa xs) 114 43 = some (.aload_n 0, 1) := x_ins (j := 23) kk114 ia114 rfl
theorem i114_44 {xs : List Int32} : xtI (xTa xs) 114 44 = some (.getfield 14, 3) := x_ins (j := 24) kk114 ia114 rfl
theorem i114_47 {xs : List Int32} : xtI (xTa xs) 114 47 = some (.getfield 63, 3) := x_ins (j := 25) kk114 ia114 rfl
theorem i114_50 {xs : List Int32} : xtI (xTa xs) 114 50 = some (.invokevirtual 81, 3) := x_ins (j := 26) kk114 ia114 rfl
theorem i114_53 {xs : List Int32} : xtI (xTa xs) 114 53 = some (.ifnonnull 18, 3) := x_ins (j := 27) kk114 ia114 rfl
theorem i114_56 {xs : List Int32} : xtI (xTa xs) 114 56 = some (.aload_n 0, 1) := x_ins (j := 28) kk114 ia114 rfl
theorem i114_57 {xs : List Int32} : xtI (xTa xs) 114 57 = some (.getfield 21, 3) := x_ins (j := 29) kk114 ia114 rfl
theorem i114_60 {xs : List Int32} : xtI (xTa xs) 114 60 = some (.aconst_null, 1) := x_ins (j := 30) kk114 ia114 rfl
theorem i114_61 {xs : List Int32} : xtI (xTa xs) 114 61 = some (.aload_n 2, 1) := x_ins (j := 31) kk114 ia114 rfl
theorem i114_62 {xs : List Int32} : xtI (xTa xs) 114 62 = some (.iconst 0, 1) := x_ins (j := 32) kk114 ia114 rfl
theorem i114_63 {xs : List Int32} : xtI (xTa xs) 114 63 = some (.aload_n 0, 1) := x_ins (j := 33) kk114 ia114 rfl
theorem i114_64 {xs : List Int32} : xtI (xTa xs) 114 64 = some (.getfield 14, 3) := x_ins (j := 34) kk114 ia114 rfl
theorem i114_67 {xs : List Int32} : xtI (xTa xs) 114 67 = some (.invokevirtual 85, 3) := x_ins (j := 35) kk114 ia114 rfl
theorem i114_70 {xs : List Int32} : xtI (xTa xs) 114 70 = some (.istore_n 3, 1) := x_ins (j := 36) kk114 ia114 rfl
theorem i114_71 {xs : List Int32} : xtI (xTa xs) 114 71 = some (.aload_n 0, 1) := x_ins (j := 37) kk114 ia114 rfl
theorem i114_72 {xs : List Int32} : xtI (xTa xs) 114 72 = some (.getfield 14, 3) := x_ins (j := 38) kk114 ia114 rfl
theorem i114_75 {xs : List Int32} : xtI (xTa xs) 114 75 = some (.iconst 0, 1) := x_ins (j := 39) kk114 ia114 rfl
theorem i114_76 {xs : List Int32} : xtI (xTa xs) 114 76 = some (.invokevirtual 70, 3) := x_ins (j := 40) kk114 ia114 rfl
theorem i114_79 {xs : List Int32} : xtI (xTa xs) 114 79 = some (.iload_n 3, 1) := x_ins (j := 41) kk114 ia114 rfl
theorem i114_80 {xs : List Int32} : xtI (xTa xs) 114 80 = some (.ireturn, 1) := x_ins (j := 42) kk114 ia114 rfl
theorem kk115 : xK0.getD 115 [] = k115 := rfl
set_option maxRecDepth 100000 in
theorem ia115 : (k115.all fun e => decide (k115.lookup e.1 = some e.2)) = true := by decide +kernel
theorem i115_0 {xs : List Int32} : xtI (xTa xs) 115 0 = some (.aload_n 0, 1) := x_ins (j := 0) kk115 ia115 rfl
theorem i115_1 {xs : List Int32} : xtI (xTa xs) 115 1 = some (.getfield 21, 3) := x_ins (j := 1) kk115 ia115 rfl
theorem i115_4 {xs : List Int32} : xtI (xTa xs) 115 4 = some (.iload_n 1, 1) := x_ins (j := 2) kk115 ia115 rfl
theorem i115_5 {xs : List Int32} : xtI (xTa xs) 115 5 = some (.invokevirtual 73, 3) := x_ins (j := 3) kk115 ia115 rfl
theorem i115_8 {xs : List Int32} : xtI (xTa xs) 115 8 = some (.astore_n 3, 1) := x_ins (j := 4) kk115 ia115 rfl
theorem i115_9 {xs : List Int32} : xtI (xTa xs) 115 9 = some (.iconst (-1), 1) := x_ins (j := 5) kk115 ia115 rfl
theorem i115_10 {xs : List Int32} : xtI (xTa xs) 115 10 = some (.istore 4, 2) := x_ins (j := 6) kk115 ia115 rfl
theorem i115_12 {xs : List Int32} : xtI (xTa xs) 115 12 = some (.aload_n 3, 1) := x_ins (j := 7) kk115 ia115 rfl
theorem i115_13 {xs : List Int32} : xtI (xTa xs) 115 13 = some (.ifnull 56, 3) := x_ins (j := 8) kk115 ia115 rfl
theorem i115_16 {xs : List Int32} : xtI (xTa xs) 115 16 = some (.aload_n 0, 1) := x_ins (j := 9) kk115 ia115 rfl
theorem i115_17 {xs : List Int32} : xtI (xTa xs) 115 17 = some (.getfield 14, 3) := x_ins (j := 10) kk115 ia115 rfl
theorem i115_20 {xs : List Int32} : xtI (xTa xs) 115 20 = some (.bipush 97, 2) := x_ins (j := 11) kk115 ia115 rfl
theorem i115_22 {xs : List Int32} : xtI (xTa xs) 115 22 = some (.bipush 122, 2) := x_ins (j := 12) kk115 ia115 rfl
theorem i115_24 {xs : List Int32} : xtI (xTa xs) 115 24 = some (.invokevirtual 77, 3) := x_ins (j := 13) kk115 ia115 rfl
theorem i115_27 {xs : List Int32} : xtI (xTa xs) 115 27 = some (.ifCond .eq 42, 3) := x_ins (j := 14) kk115 ia115 rfl
theorem i115_30 {xs : List Int32} : xtI (xTa xs) 115 30 = some (.aload_n 0, 1) := x_ins (j := 15) kk115 ia115 rfl
theorem i115_31 {xs : List Int32} : xtI (xTa xs) 115 31 = some (.getfield 21, 3) := x_ins (j := 16) kk115 ia115 rfl
theorem i115_34 {xs : List Int32} : xtI (xTa xs) 115 34 = some (.aload_n 3, 1) := x_ins (j := 17) kk115 ia115 rfl
theorem i115_35 {xs : List Int32} : xtI (xTa xs) 115 35 = some (.aload_n 0, 1) := x_ins (j := 18) kk115 ia115 rfl
theorem i115_36 {xs : List Int32} : xtI (xTa xs) 115 36 = some (.getfield 14, 3) := x_ins (j := 19) kk115 ia115 rfl
theorem i115_39 {xs : List Int32} : xtI (xTa xs) 115 39 = some (.iconst 0, 1) := x_ins (j := 20) kk115 ia115 rfl
theorem i115_40 {xs : List Int32} : xtI (xTa xs) 115 40 = some (.aload_n 0, 1) := x_ins (j := 21) kk115 ia115 rfl
theorem i115_41 {xs : List Int32} : xtI (xTa xs) 115 41 = some (.getfield 14, 3) := x_ins (j := 22) kk115 ia115 rfl
theorem i115_44 {xs : List Int32} : xtI (xTa xs) 115 44 = some (.getfield 63, 3) := x_ins (j := 23) kk115 ia115 rfl
theorem i115_47 {xs : List Int32} : xtI (xTa xs) 115 47 = some (.invokevirtual 89, 3) := x_ins (j := 24) kk115 ia115 rfl
theorem i115_50 {xs : List Int32} : xtI (xTa xs) 115 50 = some (.ifnonnull 19, 3) := x_ins (j := 25) kk115 ia115 rfl
theorem i115_53 {xs : List Int32} : xtI (xTa xs) 115 53 = some (.aload_n 0, 1) := x_ins (j := 26) kk115 ia115 rfl
theorem i115_54 {xs : List Int32} : xtI (xTa xs) 115 54 = some (.getfield 21, 3) := x_ins (j := 27) kk115 ia115 rfl
theorem i115_57 {xs : List Int32} : xtI (xTa xs) 115 57 = some (.aload_n 3, 1) := x_ins (j := 28) kk115 ia115 rfl
theorem i115_58 {xs : List Int32} : xtI (xTa xs) 115 58 = some (.aconst_null, 1) := x_ins (j := 29) kk115 ia115 rfl
theorem i115_59 {xs : List Int32} : xtI (xTa xs) 115 59 = some (.iload_n 2, 1) := x_ins (j := 30) kk115 ia115 rfl
theorem i115_60 {xs : List Int32} : xtI (xTa xs) 115 60 = some (.aload_n 0, 1) := x_ins (j := 31) kk115 ia115 rfl
theorem i115_61 {xs : List Int32} : xtI (xTa xs) 115 61 = some (.getfield 14, 3) := x_ins (j := 32) kk115 ia115 rfl
theorem i115_64 {xs : List Int32} : xtI (xTa xs) 115 64 = some (.invokevirtual 85, 3) := x_ins (j := 33) kk115 ia115 rfl
theorem i115_67 {xs : List Int32} : xtI (xTa xs) 115 67 = some (.istore 4, 2) := x_ins (j := 34) kk115 ia115 rfl
theorem i115_69 {xs : List Int32} : xtI (xTa xs) 115 69 = some (.aload_n 0, 1) := x_ins (j := 35) kk115 ia115 rfl
theorem i115_70 {xs : List Int32} : xtI (xTa xs) 115 70 = some (.getfield 14, 3) := x_ins (j := 36) kk115 ia115 rfl
theorem i115_73 {xs : List Int32} : xtI (xTa xs) 115 73 = some (.iconst 0, 1) := x_ins (j := 37) kk115 ia115 rfl
theorem i115_74 {xs : List Int32} : xtI (xTa xs) 115 74 = some (.invokevirtual 70, 3) := x_ins (j := 38) kk115 ia115 rfl
theorem i115_77 {xs : List Int32} : xtI (xTa xs) 115 77 = some (.iload 4, 2) := x_ins (j := 39) kk115 ia115 rfl
theorem i115_79 {xs : List Int32} : xtI (xTa xs) 115 79 = some (.ireturn, 1) := x_ins (j := 40) kk115 ia115 rfl
theorem kk116 : xK0.getD 116 [] = k116 := rfl
set_option maxRecDepth 100000 in
theorem ia116 : (k116.all fun e => decide (k116.lookup e.1 = some e.2)) = true := by decide +kernel
theorem i116_0 {xs : List Int32} : xtI (xTa xs) 116 0 = some (.aload_n 0, 1) := x_ins (j := 0) kk116 ia116 rfl
theorem i116_1 {xs : List Int32} : xtI (xTa xs) 116 1 = some (.getfield 21, 3) := x_ins (j := 1) kk116 ia116 rfl
theorem i116_4 {xs : List Int32} : xtI (xTa xs) 116 4 = some (.iload_n 1, 1) := x_ins (j := 2) kk116 ia116 rfl
theorem i116_5 {xs : List Int32} : xtI (xTa xs) 116 5 = some (.invokevirtual 93, 3) := x_ins (j := 3) kk116 ia116 rfl
theorem i116_8 {xs : List Int32} : xtI (xTa xs) 116 8 = some (.astore_n 2, 1) := x_ins (j := 4) kk116 ia116 rfl
theorem i116_9 {xs : List Int32} : xtI (xTa xs) 116 9 = some (.iconst (-1), 1) := x_ins (j := 5) kk116 ia116 rfl
theorem i116_10 {xs : List Int32} : xtI (xTa xs) 116 10 = some (.istore_n 3, 1) := x_ins (j := 6) kk116 ia116 rfl
theorem i116_11 {xs : List Int32} : xtI (xTa xs) 116 11 = some (.aload_n 2, 1) := x_ins (j := 7) kk116 ia116 rfl
theorem i116_12 {xs : List Int32} : xtI (xTa xs) 116 12 = some (.ifnull 52, 3) := x_ins (j := 8) kk116 ia116 rfl
theorem i116_15 {xs : List Int32} : xtI (xTa xs) 116 15 = some (.aload_n 2, 1) := x_ins (j := 9) kk116 ia116 rfl
theorem i116_16 {xs : List Int32} : xtI (xTa xs) 116 16 = some (.invokevirtual 96, 3) := x_ins (j := 10) kk116 ia116 rfl
theorem i116_19 {xs : List Int32} : xtI (xTa xs) 116 19 = some (.ifCond .ne 45, 3) := x_ins (j := 11) kk116 ia116 rfl
theorem i116_22 {xs : List Int32} : xtI (xTa xs) 116 22 = some (.aload_n 0, 1) := x_ins (j := 12) kk116 ia116 rfl
theorem i116_23 {xs : List Int32} : xtI (xTa xs) 116 23 = some (.getfield 14, 3) := x_ins (j := 13) kk116 ia116 rfl
theorem i116_26 {xs : List Int32} : xtI (xTa xs) 116 26 = some (.bipush 97, 2) := x_ins (j := 14) kk116 ia116 rfl
theorem i116_28 {xs : List Int32} : xtI (xTa xs) 116 28 = some (.bipush 122, 2) := x_ins (j := 15) kk116 ia116 rfl
theorem i116_30 {xs : List Int32} : xtI (xTa xs) 116 30 = some (.invokevirtual 77, 3) := x_ins (j := 16) kk116 ia116 rfl
theorem i116_33 {xs : List Int32} : xtI (xTa xs) 116 33 = some (.ifCond .eq 31, 3) := x_ins (j := 17) kk116 ia116 rfl
theorem i116_36 {xs : List Int32} : xtI (xTa xs) 116 36 = some (.aload_n 2, 1) := x_ins (j := 18) kk116 ia116 rfl
theorem i116_37 {xs : List Int32} : xtI (xTa xs) 116 37 = some (.aload_n 0, 1) := x_ins (j := 19) kk116 ia116 rfl
theorem i116_38 {xs : List Int32} : xtI (xTa xs) 116 38 = some (.getfield 14, 3) := x_ins (j := 20) kk116 ia116 rfl
theorem i116_41 {xs : List Int32} : xtI (xTa xs) 116 41 = some (.iconst 0, 1) := x_ins (j := 21) kk116 ia116 rfl
theorem i116_42 {xs : List Int32} : xtI (xTa xs) 116 42 = some (.aload_n 0, 1) := x_ins (j := 22) kk116 ia116 rfl
theorem i116_43 {xs : List Int32} : xtI (xTa xs) 116 43 = some (.getfield 14, 3) := x_ins (j := 23) kk116 ia116 rfl
theorem i116_46 {xs : List Int32} : xtI (xTa xs) 116 46 = some (.getfield 63, 3) := x_ins (j := 24) kk116 ia116 rfl
theorem i116_49 {xs : List Int32} : xtI (xTa xs) 116 49 = some (.invokevirtual 102, 3) := x_ins (j := 25) kk116 ia116 rfl
theorem i116_52 {xs : List Int32} : xtI (xTa xs) 116 52 = some (.ifCond .ne 12, 3) := x_ins (j := 26) kk116 ia116 rfl
theorem i116_55 {xs : List Int32} : xtI (xTa xs) 116 55 = some (.aload_n 2, 1) := x_ins (j := 27) kk116 ia116 rfl
theorem i116_56 {xs : List Int32} : xtI (xTa xs) 116 56 = some (.aload_n 0, 1) := x_ins (j := 28) kk116 ia116 rfl
theorem i116_57 {xs : List Int32} : xtI (xTa xs) 116 57 = some (.getfield 14, 3) := x_ins (j := 29) kk116 ia116 rfl
theorem i116_60 {xs : List Int32} : xtI (xTa xs) 116 60 = some (.invokevirtual 106, 3) := x_ins (j := 30) kk116 ia116 rfl
theorem i116_63 {xs : List Int32} : xtI (xTa xs) 116 63 = some (.istore_n 3, 1) := x_ins (j := 31) kk116 ia116 rfl
theorem i116_64 {xs : List Int32} : xtI (xTa xs) 116 64 = some (.aload_n 0, 1) := x_ins (j := 32) kk116 ia116 rfl
theorem i116_65 {xs : List Int32} : xtI (xTa xs) 116 65 = some (.getfield 14, 3) := x_ins (j := 33) kk116 ia116 rfl
theorem i116_68 {xs : List Int32} : xtI (xTa xs) 116 68 = some (.iconst 0, 1) := x_ins (j := 34) kk116 ia116 rfl
theorem i116_69 {xs : List Int32} : xtI (xTa xs) 116 69 = some (.invokevirtual 70, 3) := x_ins (j := 35) kk116 ia116 rfl
theorem i116_72 {xs : List Int32} : xtI (xTa xs) 116 72 = some (.iload_n 3, 1) := x_ins (j := 36) kk116 ia116 rfl
theorem i116_73 {xs : List Int32} : xtI (xTa xs) 116 73 = some (.ireturn, 1) := x_ins (j := 37) kk116 ia116 rfl
theorem kk117 : xK0.getD 117 [] = k117 := rfl
set_option maxRecDepth 100000 in
theorem ia117 : (k117.all fun e => decide (k117.lookup e.1 = some e.2)) = true := by decide +kernel
theorem i117_0 {xs : List Int32} : xtI (xTa xs) 117 0 = some (.aload_n 0, 1) := x_ins (j := 0) kk117 ia117 rfl
theorem i117_1 {xs : List Int32} : xtI (xTa xs) 117 1 = some (.getfield 21, 3) := x_ins (j := 1) kk117 ia117 rfl
theorem i117_4 {xs : List Int32} : xtI (xTa xs) 117 4 = some (.iload_n 1, 1) := x_ins (j := 2) kk117 ia117 rfl
theorem i117_5 {xs : List Int32} : xtI (xTa xs) 117 5 = some (.invokevirtual 93, 3) := x_ins (j := 3) kk117 ia117 rfl
theorem i117_8 {xs : List Int32} : xtI (xTa xs) 117 8 = some (.astore_n 2, 1) := x_ins (j := 4) kk117 ia117 rfl
theorem i117_9 {xs : List Int32} : xtI (xTa xs) 117 9 = some (.aload_n 2, 1) := x_ins (j := 5) kk117 ia117 rfl
theorem i117_10 {xs : List Int32} : xtI (xTa xs) 117 10 = some (.ifnonnull 13, 3) := x_ins (j := 6) kk117 ia117 rfl
theorem i117_13 {xs : List Int32} : xtI (xTa xs) 117 13 = some (.aload_n 0, 1) := x_ins (j := 7) kk117 ia117 rfl
theorem i117_14 {xs : List Int32} : xtI (xTa xs) 117 14 = some (.getfield 14, 3) := x_ins (j := 8) kk117 ia117 rfl
theorem i117_17 {xs : List Int32} : xtI (xTa xs) 117 17 = some (.iconst 0, 1) := x_ins (j := 9) kk117 ia117 rfl
theorem i117_18 {xs : List Int32} : xtI (xTa xs) 117 18 = some (.invokevirtual 70, 3) := x_ins (j := 10) kk117 ia117 rfl
theorem i117_21 {xs : List Int32} : xtI (xTa xs) 117 21 = some (.iconst (-1), 1) := x_ins (j := 11) kk117 ia117 rfl
theorem i117_22 {xs : List Int32} : xtI (xTa xs) 117 22 = some (.ireturn, 1) := x_ins (j := 12) kk117 ia117 rfl
theorem i117_23 {xs : List Int32} : xtI (xTa xs) 117 23 = some (.aload_n 0, 1) := x_ins (j := 13) kk117 ia117 rfl
theorem i117_24 {xs : List Int32} : xtI (xTa xs) 117 24 = some (.getfield 49, 3) := x_ins (j := 14) kk117 ia117 rfl
theorem i117_27 {xs : List Int32} : xtI (xTa xs) 117 27 = some (.aload_n 0, 1) := x_ins (j := 15) kk117 ia117 rfl
theorem i117_28 {xs : List Int32} : xtI (xTa xs) 117 28 = some (.getfield 14, 3) := x_ins (j := 16) kk117 ia117 rfl
theorem i117_31 {xs : List Int32} : xtI (xTa xs) 117 31 = some (.aload_n 2, 1) := x_ins (j := 17) kk117 ia117 rfl
theorem i117_32 {xs : List Int32} : xtI (xTa xs) 117 32 = some (.invokevirtual 110, 3) := x_ins (j := 18) kk117 ia117 rfl
theorem i117_35 {xs : List Int32} : xtI (xTa xs) 117 35 = some (.aload_n 0, 1) := x_ins (j := 19) kk117 ia117 rfl
theorem i117_36 {xs : List Int32} : xtI (xTa xs) 117 36 = some (.getfield 14, 3) := x_ins (j := 20) kk117 ia117 rfl
theorem i117_39 {xs : List Int32} : xtI (xTa xs) 117 39 = some (.iconst 0, 1) := x_ins (j := 21) kk117 ia117 rfl
theorem i117_40 {xs : List Int32} : xtI (xTa xs) 117 40 = some (.invokevirtual 70, 3) := x_ins (j := 22) kk117 ia117 rfl
theorem i117_43 {xs : List Int32} : xtI (xTa xs) 117 43 = some (.aload_n 0, 1) := x_ins (j := 23) kk117 ia117 rfl
theorem i117_44 {xs : List Int32} : xtI (xTa xs) 117 44 = some (.getfield 28, 3) := x_ins (j := 24) kk117 ia117 rfl
theorem i117_47 {xs : List Int32} : xtI (xTa xs) 117 47 = some (.aload_n 0, 1) := x_ins (j := 25) kk117 ia117 rfl
theorem i117_48 {xs : List Int32} : xtI (xTa xs) 117 48 = some (.getfield 49, 3) := x_ins (j := 26) kk117 ia117 rfl
theorem i117_51 {xs : List Int32} : xtI (xTa xs) 117 51 = some (.invokevirtual 114, 3) := x_ins (j := 27) kk117 ia117 rfl
theorem i117_54 {xs : List Int32} : xtI (xTa xs) 117 54 = some (.aload_n 0, 1) := x_ins (j := 28) kk117 ia117 rfl
theorem i117_55 {xs : List Int32} : xtI (xTa xs) 117 55 = some (.getfield 28, 3) := x_ins (j := 29) kk117 ia117 rfl
theorem i117_58 {xs : List Int32} : xtI (xTa xs) 117 58 = some (.getfield 118, 3) := x_ins (j := 30) kk117 ia117 rfl
theorem i117_61 {xs : List Int32} : xtI (xTa xs) 117 61 = some (.ifCond .ne 11, 3) := x_ins (j := 31) kk117 ia117 rfl
theorem i117_64 {xs : List Int32} : xtI (xTa xs) 117 64 = some (.aload_n 0, 1) := x_ins (j := 32) kk117 ia117 rfl
theorem i117_65 {xs : List Int32} : xtI (xTa xs) 117 65 = some (.aload_n 2, 1) := x_ins (j := 33) kk117 ia117 rfl
theorem i117_66 {xs : List Int32} : xtI (xTa xs) 117 66 = some (.invokevirtual 121, 3) := x_ins (j := 34) kk117 ia117 rfl
theorem i117_69 {xs : List Int32} : xtI (xTa xs) 117 69 = some (.goto 13, 3) := x_ins (j := 35) kk117 ia117 rfl
theorem i117_72 {xs : List Int32} : xtI (xTa xs) 117 72 = some (.bipush (-10), 2) := x_ins (j := 36) kk117 ia117 rfl
theorem i117_74 {xs : List Int32} : xtI (xTa xs) 117 74 = some (.aload_n 0, 1) := x_ins (j := 37) kk117 ia117 rfl
theorem i117_75 {xs : List Int32} : xtI (xTa xs) 117 75 = some (.getfield 28, 3) := x_ins (j := 38) kk117 ia117 rfl
theorem i117_78 {xs : List Int32} : xtI (xTa xs) 117 78 = some (.getfield 125, 3) := x_ins (j := 39) kk117 ia117 rfl
theorem i117_81 {xs : List Int32} : xtI (xTa xs) 117 81 = some (.isub, 1) := x_ins (j := 40) kk117 ia117 rfl
theorem i117_82 {xs : List Int32} : xtI (xTa xs) 117 82 = some (.ireturn, 1) := x_ins (j := 41) kk117 ia117 rfl
theorem kk118 : xK0.getD 118 [] = k118 := rfl
set_option maxRecDepth 100000 in
theorem ia118 : (k118.all fun e => decide (k118.lookup e.1 = some e.2)) = true := by decide +kernel
theorem i118_0 {xs : List Int32} : xtI (xTa xs) 118 0 = some (.aload_n 0, 1) := x_ins (j := 0) kk118 ia118 rfl
theorem i118_1 {xs : List Int32} : xtI (xTa xs) 118 1 = some (.getfield 49, 3) := x_ins (j := 1) kk118 ia118 rfl
theorem i118_4 {xs : List Int32} : xtI (xTa xs) 118 4 = some (.astore_n 2, 1) := x_ins (j := 2) kk118 ia118 rfl
theorem i118_5 {xs : List Int32} : xtI (xTa xs) 118 5 = some (.aload_n 0, 1) := x_ins (j := 3) kk118 ia118 rfl
theorem i118_6 {xs : List Int32} : xtI (xTa xs) 118 6 = some (.aload_n 1, 1) := x_ins (j := 4) kk118 ia118 rfl
theorem i118_7 {xs : List Int32} : xtI (xTa xs) 118 7 = some (.getfield 128, 3) := x_ins (j := 5) kk118 ia118 rfl
theorem i118_10 {xs : List Int32} : xtI (xTa xs) 118 10 = some (.ifnonnull 13, 3) := x_ins (j := 6) kk118 ia118 rfl
theorem i118_13 {xs : List Int32} : xtI (xTa xs) 118 13 = some (.new 46, 3) := x_ins (j := 7) kk118 ia118 rfl
theorem i118_16 {xs : List Int32} : xtI (xTa xs) 118 16 = some (.dup, 1) := x_ins (j := 8) kk118 ia118 rfl
theorem i118_17 {xs : List Int32} : xtI (xTa xs) 118 17 = some (.invokespecial 48, 3) := x_ins (j := 9) kk118 ia118 rfl
theorem i118_20 {xs : List Int32} : xtI (xTa xs) 118 20 = some (.goto 7, 3) := x_ins (j := 10) kk118 ia118 rfl
theorem i118_23 {xs : List Int32} : xtI (xTa xs) 118 23 = some (.aload_n 1, 1) := x_ins (j := 11) kk118 ia118 rfl
theorem i118_24 {xs : List Int32} : xtI (xTa xs) 118 24 = some (.getfield 128, 3) := x_ins (j := 12) kk118 ia118 rfl
theorem i118_27 {xs : List Int32} : xtI (xTa xs) 118 27 = some (.putfield 49, 3) := x_ins (j := 13) kk118 ia118 rfl
theorem i118_30 {xs : List Int32} : xtI (xTa xs) 118 30 = some (.aload_n 1, 1) := x_ins (j := 14) kk118 ia118 rfl
theorem i118_31 {xs : List Int32} : xtI (xTa xs) 118 31 = some (.aload_n 2, 1) := x_ins (j := 15) kk118 ia118 rfl
theorem i118_32 {xs : List Int32} : xtI (xTa xs) 118 32 = some (.putfield 128, 3) := x_ins (j := 16) kk118 ia118 rfl
theorem i118_35 {xs : List Int32} : xtI (xTa xs) 118 35 = some (.aload_n 1, 1) := x_ins (j := 17) kk118 ia118 rfl
theorem i118_36 {xs : List Int32} : xtI (xTa xs) 118 36 = some (.iconst 1, 1) := x_ins (j := 18) kk118 ia118 rfl
theorem i118_37 {xs : List Int32} : xtI (xTa xs) 118 37 = some (.putfield 131, 3) := x_ins (j := 19) kk118 ia118 rfl
theorem i118_40 {xs : List Int32} : xtI (xTa xs) 118 40 = some (.aload_n 2, 1) := x_ins (j := 20) kk118 ia118 rfl
theorem i118_41 {xs : List Int32} : xtI (xTa xs) 118 41 = some (.getfield 135, 3) := x_ins (j := 21) kk118 ia118 rfl
theorem i118_44 {xs : List Int32} : xtI (xTa xs) 118 44 = some (.ireturn, 1) := x_ins (j := 22) kk118 ia118 rfl
theorem kk119 : xK0.getD 119 [] = k119 := rfl
set_option maxRecDepth 100000 in
theorem ia119 : (k119.all fun e => decide (k119.lookup e.1 = some e.2)) = true := by decide +kernel
theorem i119_0 {xs : List Int32} : xtI (xTa xs) 119 0 = some (.aload_n 0, 1) := x_ins (j := 0) kk119 ia119 rfl
theorem i119_1 {xs : List Int32} : xtI (xTa xs) 119 1 = some (.getfield 28, 3) := x_ins (j := 1) kk119 ia119 rfl
theorem i119_4 {xs : List Int32} : xtI (xTa xs) 119 4 = some (.getfield 118, 3) := x_ins (j := 2) kk119 ia119 rfl
theorem i119_7 {xs : List Int32} : xtI (xTa xs) 119 7 = some (.ireturn, 1) := x_ins (j := 3) kk119 ia119 rfl
theorem kk120 : xK0.getD 120 [] = k120 := rfl
set_option maxRecDepth 100000 in
theorem ia120 : (k120.all fun e => decide (k120.lookup e.1 = some e.2)) = true := by decide +kernel
theorem i120_0 {xs : List Int32} : xtI (xTa xs) 120 0 = some (.aload_n 0, 1) := x_ins (j := 0) kk120 ia120 rfl
theorem i120_1 {xs : List Int32} : xtI (xTa xs) 120 1 = some (.getfield 21, 3) := x_ins (j := 1) kk120 ia120 rfl
theorem i120_4 {xs : List Int32} : xtI (xTa xs) 120 4 = some (.iload_n 1, 1) := x_ins (j := 2) kk120 ia120 rfl
theorem i120_5 {xs : List Int32} : xtI (xTa xs) 120 5 = some (.invokevirtual 93, 3) := x_ins (j := 3) kk120 ia120 rfl
theorem i120_8 {xs : List Int32} : xtI (xTa xs) 120 8 = some (.astore_n 2, 1) := x_ins (j := 4) kk120 ia120 rfl
theorem i120_9 {xs : List Int32} : xtI (xTa xs) 120 9 = some (.aload_n 2, 1) := x_ins (j := 5) kk120 ia120 rfl
theorem i120_10 {xs : List Int32} : xtI (xTa xs) 120 10 = some (.ifnonnull 5, 3) := x_ins (j := 6) kk120 ia120 rfl
theorem i120_13 {xs : List Int32} : xtI (xTa xs) 120 13 = some (.iconst (-1), 1) := x_ins (j := 7) kk120 ia120 rfl
theorem i120_14 {xs : List Int32} : xtI (xTa xs) 120 14 = some (.ireturn, 1) := x_ins (j := 8) kk120 ia120 rfl
theorem i120_15 {xs : List Int32} : xtI (xTa xs) 120 15 = some (.aload_n 2, 1) := x_ins (j := 9) kk120 ia120 rfl
theorem i120_16 {xs : List Int32} : xtI (xTa xs) 120 16 = some (.invokevirtual 138, 3) := x_ins (j := 10) kk120 ia120 rfl
theorem i120_19 {xs : List Int32} : xtI (xTa xs) 120 19 = some (.astore_n 3, 1) := x_ins (j := 11) kk120 ia120 rfl
theorem i120_20 {xs : List Int32} : xtI (xTa xs) 120 20 = some (.aload_n 3, 1) := x_ins (j := 12) kk120 ia120 rfl
theorem i120_21 {xs : List Int32} : xtI (xTa xs) 120 21 = some (.ifnonnull 6, 3) := x_ins (j := 13) kk120 ia120 rfl
theorem i120_24 {xs : List Int32} : xtI (xTa xs) 120 24 = some (.bipush (-2), 2) := x_ins (j := 14) kk120 ia120 rfl
theorem i120_26 {xs : List Int32} : xtI (xTa xs) 120 26 = some (.ireturn, 1) := x_ins (j := 15) kk120 ia120 rfl
theorem i120_27 {xs : List Int32} : xtI (xTa xs) 120 27 = some (.aload_n 2, 1) := x_ins (j := 16) kk120 ia120 rfl
theorem i120_28 {xs : List Int32} : xtI (xTa xs) 120 28 = some (.iconst 0, 1) := x_ins (j := 17) kk120 ia120 rfl
theorem i120_29 {xs : List Int32} : xtI (xTa xs) 120 29 = some (.putfield 131, 3) := x_ins (j := 18) kk120 ia120 rfl
theorem i120_32 {xs : List Int32} : xtI (xTa xs) 120 32 = some (.aload_n 3, 1) := x_ins (j := 19) kk120 ia120 rfl
theorem i120_33 {xs : List Int32} : xtI (xTa xs) 120 33 = some (.getfield 135, 3) := x_ins (j := 20) kk120 ia120 rfl
theorem i120_36 {xs : List Int32} : xtI (xTa xs) 120 36 = some (.ireturn, 1) := x_ins (j := 21) kk120 ia120 rfl
theorem kk121 : xK0.getD 121 [] = k121 := rfl
set_option maxRecDepth 100000 in
theorem ia121 : (k121.all fun e => decide (k121.lookup e.1 = some e.2)) = true := by decide +kernel
theorem i121_0 {xs : List Int32} : xtI (xTa xs) 121 0 = some (.aload_n 0, 1) := x_ins (j := 0) kk121 ia121 rfl
theorem i121_1 {xs : List Int32} : xtI (xTa xs) 121 1 = some (.getfield 21, 3) := x_ins (j := 1) kk121 ia121 rfl
theorem i121_4 {xs : List Int32} : xtI (xTa xs) 121 4 = some (.iload_n 1, 1) := x_ins (j := 2) kk121 ia121 rfl
theorem i121_5 {xs : List Int32} : xtI (xTa xs) 121 5 = some (.invokevirtual 93, 3) := x_ins (j := 3) kk121 ia121 rfl
theorem i121_8 {xs : List Int32} : xtI (xTa xs) 121 8 = some (.astore_n 3, 1) := x_ins (j := 4) kk121 ia121 rfl
theorem i121_9 {xs : List Int32} : xtI (xTa xs) 121 9 = some (.aload_n 3, 1) := x_ins (j := 5) kk121 ia121 rfl
theorem i121_10 {xs : List Int32} : xtI (xTa xs) 121 10 = some (.ifnonnull 6, 3) := x_ins (j := 6) kk121 ia121 rfl
theorem i121_13 {xs : List Int32} : xtI (xTa xs) 121 13 = some (.bipush (-9), 2) := x_ins (j := 7) kk121 ia121 rfl
theorem i121_15 {xs : List Int32} : xtI (xTa xs) 121 15 = some (.ireturn, 1) := x_ins (j := 8) kk121 ia121 rfl
theorem i121_16 {xs : List Int32} : xtI (xTa xs) 121 16 = some (.aload_n 3, 1) := x_ins (j := 9) kk121 ia121 rfl
theorem i121_17 {xs : List Int32} : xtI (xTa xs) 121 17 = some (.invokevirtual 138, 3) := x_ins (j := 10) kk121 ia121 rfl
theorem i121_20 {xs : List Int32} : xtI (xTa xs) 121 20 = some (.astore 4, 2) := x_ins (j := 11) kk121 ia121 rfl
theorem i121_22 {xs : List Int32} : xtI (xTa xs) 121 22 = some (.iload_n 2, 1) := x_ins (j := 12) kk121 ia121 rfl
theorem i121_23 {xs : List Int32} : xtI (xTa xs) 121 23 = some (.tableswitch 133 0 7 #[45, 53, 61, 66, 79, 91, 103, 118], 45) := x_ins (j := 13) kk121 ia121 rfl
theorem i121_68 {xs : List Int32} : xtI (xTa xs) 121 68 = some (.aload_n 3, 1) := x_ins (j := 14) kk121 ia121 rfl
theorem i121_69 {xs : List Int32} : xtI (xTa xs) 121 69 = some (.getfield 142, 3) := x_ins (j := 15) kk121 ia121 rfl
theorem i121_72 {xs : List Int32} : xtI (xTa xs) 121 72 = some (.invokestatic 146, 3) := x_ins (j := 16) kk121 ia121 rfl
theorem i121_75 {xs : List Int32} : xtI (xTa xs) 121 75 = some (.ireturn, 1) := x_ins (j := 17) kk121 ia121 rfl
theorem i121_76 {xs : List Int32} : xtI (xTa xs) 121 76 = some (.aload_n 3, 1) := x_ins (j := 18) kk121 ia121 rfl
theorem i121_77 {xs : List Int32} : xtI (xTa xs) 121 77 = some (.getfield 149, 3) := x_ins (j := 19) kk121 ia121 rfl
theorem i121_80 {xs : List Int32} : xtI (xTa xs) 121 80 = some (.invokestatic 146, 3) := x_ins (j := 20) kk121 ia121 rfl
theorem i121_83 {xs : List Int32} : xtI (xTa xs) 121 83 = some (.ireturn, 1) := x_ins (j := 21) kk121 ia121 rfl
theorem i121_84 {xs : List Int32} : xtI (xTa xs) 121 84 = some (.aload_n 3, 1) := x_ins (j := 22) kk121 ia121 rfl
theorem i121_85 {xs : List Int32} : xtI (xTa xs) 121 85 = some (.getfield 152, 3) := x_ins (j := 23) kk121 ia121 rfl
theorem i121_88 {xs : List Int32} : xtI (xTa xs) 121 88 = some (.ireturn, 1) := x_ins (j := 24) kk121 ia121 rfl
theorem i121_89 {xs : List Int32} : xtI (xTa xs) 121 89 = some (.aload_n 3, 1) := x_ins (j := 25) kk121 ia121 rfl
theorem i121_90 {xs : List Int32} : xtI (xTa xs) 121 90 = some (.getfield 155, 3) := x_ins (j := 26) kk121 ia121 rfl
theorem i121_93 {xs : List Int32} : xtI (xTa xs) 121 93 = some (.ifCond .eq 7, 3) := x_ins (j := 27) kk121 ia121 rfl
theorem i121_96 {xs : List Int32} : xtI (xTa xs) 121 96 = some (.iconst 1, 1) := x_ins (j := 28) kk121 ia121 rfl
theorem i121_97 {xs : List Int32} : xtI (xTa xs) 121 97 = some (.goto 4, 3) := x_ins (j := 29) kk121 ia121 rfl
theorem i121_100 {xs : List Int32} : xtI (xTa xs) 121 100 = some (.iconst 0, 1) := x_ins (j := 30) kk121 ia121 rfl
theorem i121_101 {xs : List Int32} : xtI (xTa xs) 121 101 = some (.ireturn, 1) := x_ins (j := 31) kk121 ia121 rfl
theorem i121_102 {xs : List Int32} : xtI (xTa xs) 121 102 = some (.aload_n 0, 1) := x_ins (j := 32) kk121 ia121 rfl
theorem i121_103 {xs : List Int32} : xtI (xTa xs) 121 103 = some (.getfield 21, 3) := x_ins (j := 33) kk121 ia121 rfl
theorem i121_106 {xs : List Int32} : xtI (xTa xs) 121 106 = some (.aload_n 3, 1) := x_ins (j := 34) kk121 ia121 rfl
theorem i121_107 {xs : List Int32} : xtI (xTa xs) 121 107 = some (.invokevirtual 158, 3) := x_ins (j := 35) kk121 ia121 rfl
theorem i121_110 {xs : List Int32} : xtI (xTa xs) 121 110 = some (.invokestatic 146, 3) := x_ins (j := 36) kk121 ia121 rfl
theorem i121_113 {xs : List Int32} : xtI (xTa xs) 121 113 = some (.ireturn, 1) := x_ins (j := 37) kk121 ia121 rfl
theorem i121_114 {xs : List Int32} : xtI (xTa xs) 121 114 = some (.aload_n 0, 1) := x_ins (j := 38) kk121 ia121 rfl
theorem i121_115 {xs : List Int32} : xtI (xTa xs) 121 115 = some (.getfield 21, 3) := x_ins (j := 39) kk121 ia121 rfl
theorem i121_118 {xs : List Int32} : xtI (xTa xs) 121 118 = some (.aload_n 3, 1) := x_ins (j := 40) kk121 ia121 rfl
theorem i121_119 {xs : List Int32} : xtI (xTa xs) 121 119 = some (.invokevirtual 162, 3) := x_ins (j := 41) kk121 ia121 rfl
theorem i121_122 {xs : List Int32} : xtI (xTa xs) 121 122 = some (.invokestatic 146, 3) := x_ins (j := 42) kk121 ia121 rfl
theorem i121_125 {xs : List Int32} : xtI (xTa xs) 121 125 = some (.ireturn, 1) := x_ins (j := 43) kk121 ia121 rfl
theorem i121_126 {xs : List Int32} : xtI (xTa xs) 121 126 = some (.aload 4, 2) := x_ins (j := 44) kk121 ia121 rfl
theorem i121_128 {xs : List Int32} : xtI (xTa xs) 121 128 = some (.ifnonnull 7, 3) := x_ins (j := 45) kk121 ia121 rfl
theorem i121_131 {xs : List Int32} : xtI (xTa xs) 121 131 = some (.iconst 0, 1) := x_ins (j := 46) kk121 ia121 rfl
theorem i121_132 {xs : List Int32} : xtI (xTa xs) 121 132 = some (.goto 8, 3) := x_ins (j := 47) kk121 ia121 rfl
theorem i121_135 {xs : List Int32} : xtI (xTa xs) 121 135 = some (.aload 4, 2) := x_ins (j := 48) kk121 ia121 rfl
theorem i121_137 {xs : List Int32} : xtI (xTa xs) 121 137 = some (.getfield 135, 3) := x_ins (j := 49) kk121 ia121 rfl
theorem i121_140 {xs : List Int32} : xtI (xTa xs) 121 140 = some (.ireturn, 1) := x_ins (j := 50) kk121 ia121 rfl
theorem i121_141 {xs : List Int32} : xtI (xTa xs) 121 141 = some (.aload 4, 2) := x_ins (j := 51) kk121 ia121 rfl
theorem i121_143 {xs : List Int32} : xtI (xTa xs) 121 143 = some (.ifnonnull 7, 3) := x_ins (j := 52) kk121 ia121 rfl
theorem i121_146 {xs : List Int32} : xtI (xTa xs) 121 146 = some (.iconst 0, 1) := x_ins (j := 53) kk121 ia121 rfl
theorem i121_147 {xs : List Int32} : xtI (xTa xs) 121 147 = some (.goto 8, 3) := x_ins (j := 54) kk121 ia121 rfl
theorem i121_150 {xs : List Int32} : xtI (xTa xs) 121 150 = some (.aload 4, 2) := x_ins (j := 55) kk121 ia121 rfl
theorem i121_152 {xs : List Int32} : xtI (xTa xs) 121 152 = some (.getfield 165, 3) := x_ins (j := 56) kk121 ia121 rfl
theorem i121_155 {xs : List Int32} : xtI (xTa xs) 121 155 = some (.ireturn, 1) := x_ins (j := 57) kk121 ia121 rfl
theorem i121_156 {xs : List Int32} : xtI (xTa xs) 121 156 = some (.bipush (-9), 2) := x_ins (j := 58) kk121 ia121 rfl
theorem i121_158 {xs : List Int32} : xtI (xTa xs) 121 158 = some (.ireturn, 1) := x_ins (j := 59) kk121 ia121 rfl
theorem kk122 : xK0.getD 122 [] = k122 := rfl
set_option maxRecDepth 100000 in
theorem ia122 : (k122.all fun e => decide (k122.lookup e.1 = some e.2)) = true := by decide +kernel
theorem i122_0 {xs : List Int32} : xtI (xTa xs) 122 0 = some (.aload_n 0, 1) := x_ins (j := 0) kk122 ia122 rfl
theorem i122_1 {xs : List Int32} : xtI (xTa xs) 122 1 = some (.iload_n 1, 1) := x_ins (j := 1) kk122 ia122 rfl
theorem i122_2 {xs : List Int32} : xtI (xTa xs) 122 2 = some (.invokevirtual 168, 3) := x_ins (j := 2) kk122 ia122 rfl
theorem i122_5 {xs : List Int32} : xtI (xTa xs) 122 5 = some (.astore 4, 2) := x_ins (j := 3) kk122 ia122 rfl
theorem i122_7 {xs : List Int32} : xtI (xTa xs) 122 7 = some (.aload 4, 2) := x_ins (j := 4) kk122 ia122 rfl
theorem i122_9 {xs : List Int32} : xtI (xTa xs) 122 9 = some (.ifnonnull 7, 3) := x_ins (j := 5) kk122 ia122 rfl
theorem i122_12 {xs : List Int32} : xtI (xTa xs) 122 12 = some (.aconst_null, 1) := x_ins (j := 6) kk122 ia122 rfl
theorem i122_13 {xs : List Int32} : xtI (xTa xs) 122 13 = some (.goto 9, 3) := x_ins (j := 7) kk122 ia122 rfl
theorem i122_16 {xs : List Int32} : xtI (xTa xs) 122 16 = some (.aload 4, 2) := x_ins (j := 8) kk122 ia122 rfl
theorem i122_18 {xs : List Int32} : xtI (xTa xs) 122 18 = some (.iload_n 2, 1) := x_ins (j := 9) kk122 ia122 rfl
theorem i122_19 {xs : List Int32} : xtI (xTa xs) 122 19 = some (.invokevirtual 172, 3) := x_ins (j := 10) kk122 ia122 rfl
theorem i122_22 {xs : List Int32} : xtI (xTa xs) 122 22 = some (.astore 5, 2) := x_ins (j := 11) kk122 ia122 rfl
theorem i122_24 {xs : List Int32} : xtI (xTa xs) 122 24 = some (.aload 5, 2) := x_ins (j := 12) kk122 ia122 rfl
theorem i122_26 {xs : List Int32} : xtI (xTa xs) 122 26 = some (.ifnonnull 6, 3) := x_ins (j := 13) kk122 ia122 rfl
theorem i122_29 {xs : List Int32} : xtI (xTa xs) 122 29 = some (.bipush (-9), 2) := x_ins (j := 14) kk122 ia122 rfl
theorem i122_31 {xs : List Int32} : xtI (xTa xs) 122 31 = some (.ireturn, 1) := x_ins (j := 15) kk122 ia122 rfl
theorem i122_32 {xs : List Int32} : xtI (xTa xs) 122 32 = some (.iload_n 3, 1) := x_ins (j := 16) kk122 ia122 rfl
theorem i122_33 {xs : List Int32} : xtI (xTa xs) 122 33 = some (.tableswitch 55 0 3 #[31, 37, 43, 49], 31) := x_ins (j := 17) kk122 ia122 rfl
theorem i122_64 {xs : List Int32} : xtI (xTa xs) 122 64 = some (.aload 5, 2) := x_ins (j := 18) kk122 ia122 rfl
theorem i122_66 {xs : List Int32} : xtI (xTa xs) 122 66 = some (.getfield 176, 3) := x_ins (j := 19) kk122 ia122 rfl
theorem i122_69 {xs : List Int32} : xtI (xTa xs) 122 69 = some (.ireturn, 1) := x_ins (j := 20) kk122 ia122 rfl
theorem i122_70 {xs : List Int32} : xtI (xTa xs) 122 70 = some (.aload 5, 2) := x_ins (j := 21) kk122 ia122 rfl
theorem i122_72 {xs : List Int32} : xtI (xTa xs) 122 72 = some (.getfield 181, 3) := x_ins (j := 22) kk122 ia122 rfl
theorem i122_75 {xs : List Int32} : xtI (xTa xs) 122 75 = some (.ireturn, 1) := x_ins (j := 23) kk122 ia122 rfl
theorem i122_76 {xs : List Int32} : xtI (xTa xs) 122 76 = some (.aload 5, 2) := x_ins (j := 24) kk122 ia122 rfl
theorem i122_78 {xs : List Int32} : xtI (xTa xs) 122 78 = some (.getfield 184, 3) := x_ins (j := 25) kk122 ia122 rfl
theorem i122_81 {xs : List Int32} : xtI (xTa xs) 122 81 = some (.ireturn, 1) := x_ins (j := 26) kk122 ia122 rfl
theorem i122_82 {xs : List Int32} : xtI (xTa xs) 122 82 = some (.aload 5, 2) := x_ins (j := 27) kk122 ia122 rfl
theorem i122_84 {xs : List Int32} : xtI (xTa xs) 122 84 = some (.getfield 185, 3) := x_ins (j := 28) kk122 ia122 rfl
theorem i122_87 {xs : List Int32} : xtI (xTa xs) 122 87 = some (.ireturn, 1) := x_ins (j := 29) kk122 ia122 rfl
theorem i122_88 {xs : List Int32} : xtI (xTa xs) 122 88 = some (.bipush (-9), 2) := x_ins (j := 30) kk122 ia122 rfl
theorem i122_90 {xs : List Int32} : xtI (xTa xs) 122 90 = some (.ireturn, 1) := x_ins (j := 31) kk122 ia122 rfl
theorem kk123 : xK0.getD 123 [] = k123 := rfl
set_option maxRecDepth 100000 in
theorem ia123 : (k123.all fun e => decide (k123.lookup e.1 = some e.2)) = true := by decide +kernel
theorem i123_0 {xs : List Int32} : xtI (xTa xs) 123 0 = some (.aload_n 0, 1) := x_ins (j := 0) kk123 ia123 rfl
theorem i123_1 {xs : List Int32} : xtI (xTa xs) 123 1 = some (.iload_n 1, 1) := x_ins (j := 1) kk123 ia123 rfl
theorem i123_2 {xs : List Int32} : xtI (xTa xs) 123 2 = some (.invokevirtual 168, 3) := x_ins (j := 2) kk123 ia123 rfl
theorem i123_5 {xs : List Int32} : xtI (xTa xs) 123 5 = some (.astore 4, 2) := x_ins (j := 3) kk123 ia123 rfl
theorem i123_7 {xs : List Int32} : xtI (xTa xs) 123 7 = some (.aload 4, 2) := x_ins (j := 4) kk123 ia123 rfl
theorem i123_9 {xs : List Int32} : xtI (xTa xs) 123 9 = some (.ifnonnull 7, 3) := x_ins (j := 5) kk123 ia123 rfl
theorem i123_12 {xs : List Int32} : xtI (xTa xs) 123 12 = some (.aconst_null, 1) := x_ins (j := 6) kk123 ia123 rfl
theorem i123_13 {xs : List Int32} : xtI (xTa xs) 123 13 = some (.goto 9, 3) := x_ins (j := 7) kk123 ia123 rfl
theorem i123_16 {xs : List Int32} : xtI (xTa xs) 123 16 = some (.aload 4, 2) := x_ins (j := 8) kk123 ia123 rfl
theorem i123_18 {xs : List Int32} : xtI (xTa xs) 123 18 = some (.iload_n 2, 1) := x_ins (j := 9) kk123 ia123 rfl
theorem i123_19 {xs : List Int32} : xtI (xTa xs) 123 19 = some (.invokevirtual 186, 3) := x_ins (j := 10) kk123 ia123 rfl
theorem i123_22 {xs : List Int32} : xtI (xTa xs) 123 22 = some (.astore 5, 2) := x_ins (j := 11) kk123 ia123 rfl
theorem i123_24 {xs : List Int32} : xtI (xTa xs) 123 24 = some (.aload 5, 2) := x_ins (j := 12) kk123 ia123 rfl
theorem i123_26 {xs : List Int32} : xtI (xTa xs) 123 26 = some (.ifnonnull 6, 3) := x_ins (j := 13) kk123 ia123 rfl
theorem i123_29 {xs : List Int32} : xtI (xTa xs) 123 29 = some (.bipush (-9), 2) := x_ins (j := 14) kk123 ia123 rfl
theorem i123_31 {xs : List Int32} : xtI (xTa xs) 123 31 = some (.ireturn, 1) := x_ins (j := 15) kk123 ia123 rfl
theorem i123_32 {xs : List Int32} : xtI (xTa xs) 123 32 = some (.iload_n 3, 1) := x_ins (j := 16) kk123 ia123 rfl
theorem i123_33 {xs : List Int32} : xtI (xTa xs) 123 33 = some (.tableswitch 117 0 4 #[35, 41, 47, 59, 73], 35) := x_ins (j := 17) kk123 ia123 rfl
theorem i123_68 {xs : List Int32} : xtI (xTa xs) 123 68 = some (.aload 5, 2) := x_ins (j := 18) kk123 ia123 rfl
theorem i123_70 {xs : List Int32} : xtI (xTa xs) 123 70 = some (.getfield 190, 3) := x_ins (j := 19) kk123 ia123 rfl
theorem i123_73 {xs : List Int32} : xtI (xTa xs) 123 73 = some (.ireturn, 1) := x_ins (j := 20) kk123 ia123 rfl
theorem i123_74 {xs : List Int32} : xtI (xTa xs) 123 74 = some (.aload 5, 2) := x_ins (j := 21) kk123 ia123 rfl
theorem i123_76 {xs : List Int32} : xtI (xTa xs) 123 76 = some (.getfield 193, 3) := x_ins (j := 22) kk123 ia123 rfl
theorem i123_79 {xs : List Int32} : xtI (xTa xs) 123 79 = some (.ireturn, 1) := x_ins (j := 23) kk123 ia123 rfl
theorem i123_80 {xs : List Int32} : xtI (xTa xs) 123 80 = some (.aload 5, 2) := x_ins (j := 24) kk123 ia123 rfl
theorem i123_82 {xs : List Int32} : xtI (xTa xs) 123 82 = some (.getfield 194, 3) := x_ins (j := 25) kk123 ia123 rfl
theorem i123_85 {xs : List Int32} : xtI (xTa xs) 123 85 = some (.aload 5, 2) := x_ins (j := 26) kk123 ia123 rfl
theorem i123_87 {xs : List Int32} : xtI (xTa xs) 123 87 = some (.getfield 197, 3) := x_ins (j := 27) kk123 ia123 rfl
theorem i123_90 {xs : List Int32} : xtI (xTa xs) 123 90 = some (.isub, 1) := x_ins (j := 28) kk123 ia123 rfl
theorem i123_91 {xs : List Int32} : xtI (xTa xs) 123 91 = some (.ireturn, 1) := x_ins (j := 29) kk123 ia123 rfl
theorem i123_92 {xs : List Int32} : xtI (xTa xs) 123 92 = some (.aload 5, 2) := x_ins (j := 30) kk123 ia123 rfl
theorem i123_94 {xs : List Int32} : xtI (xTa xs) 123 94 = some (.getfield 200, 3) := x_ins (j := 31) kk123 ia123 rfl
theorem i123_97 {xs : List Int32} : xtI (xTa xs) 123 97 = some (.ifCond .eq 7, 3) := x_ins (j := 32) kk123 ia123 rfl
theorem i123_100 {xs : List Int32} : xtI (xTa xs) 123 100 = some (.iconst 1, 1) := x_ins (j := 33) kk123 ia123 rfl
theorem i123_101 {xs : List Int32} : xtI (xTa xs) 123 101 = some (.goto 4, 3) := x_ins (j := 34) kk123 ia123 rfl
theorem i123_104 {xs : List Int32} : xtI (xTa xs) 123 104 = some (.iconst 0, 1) := x_ins (j := 35) kk123 ia123 rfl
theorem i123_105 {xs : List Int32} : xtI (xTa xs) 123 105 = some (.ireturn, 1) := x_ins (j := 36) kk123 ia123 rfl
theorem i123_106 {xs : List Int32} : xtI (xTa xs) 123 106 = some (.aload 5, 2) := x_ins (j := 37) kk123 ia123 rfl
theorem i123_108 {xs : List Int32} : xtI (xTa xs) 123 108 = some (.getfield 190, 3) := x_ins (j := 38) kk123 ia123 rfl
theorem i123_111 {xs : List Int32} : xtI (xTa xs) 123 111 = some (.iconst 2, 1) := x_ins (j := 39) kk123 ia123 rfl
theorem i123_112 {xs : List Int32} : xtI (xTa xs) 123 112 = some (.if_icmp .eq 7, 3) := x_ins (j := 40) kk123 ia123 rfl
theorem i123_115 {xs : List Int32} : xtI (xTa xs) 123 115 = some (.iconst (-1), 1) := x_ins (j := 41) kk123 ia123 rfl
theorem i123_116 {xs : List Int32} : xtI (xTa xs) 123 116 = some (.goto 33, 3) := x_ins (j := 42) kk123 ia123 rfl
theorem i123_119 {xs : List Int32} : xtI (xTa xs) 123 119 = some (.aload_n 0, 1) := x_ins (j := 43) kk123 ia123 rfl
theorem i123_120 {xs : List Int32} : xtI (xTa xs) 123 120 = some (.getfield 21, 3) := x_ins (j := 44) kk123 ia123 rfl
theorem i123_123 {xs : List Int32} : xtI (xTa xs) 123 123 = some (.aload 4, 2) := x_ins (j := 45) kk123 ia123 rfl
theorem i123_125 {xs : List Int32} : xtI (xTa xs) 123 125 = some (.getfield 203, 3) := x_ins (j := 46) kk123 ia123 rfl
theorem i123_128 {xs : List Int32} : xtI (xTa xs) 123 128 = some (.aload 5, 2) := x_ins (j := 47) kk123 ia123 rfl
theorem i123_130 {xs : List Int32} : xtI (xTa xs) 123 130 = some (.getfield 206, 3) := x_ins (j := 48) kk123 ia123 rfl
theorem i123_133 {xs : List Int32} : xtI (xTa xs) 123 133 = some (.aload 5, 2) := x_ins (j := 49) kk123 ia123 rfl
theorem i123_135 {xs : List Int32} : xtI (xTa xs) 123 135 = some (.getfield 209, 3) := x_ins (j := 50) kk123 ia123 rfl
theorem i123_138 {xs : List Int32} : xtI (xTa xs) 123 138 = some (.aload 4, 2) := x_ins (j := 51) kk123 ia123 rfl
theorem i123_140 {xs : List Int32} : xtI (xTa xs) 123 140 = some (.getfield 212, 3) := x_ins (j := 52) kk123 ia123 rfl
theorem i123_143 {xs : List Int32} : xtI (xTa xs) 123 143 = some (.invokevirtual 215, 3) := x_ins (j := 53) kk123 ia123 rfl
theorem i123_146 {xs : List Int32} : xtI (xTa xs) 123 146 = some (.invokestatic 146, 3) := x_ins (j := 54) kk123 ia123 rfl
theorem i123_149 {xs : List Int32} : xtI (xTa xs) 123 149 = some (.ireturn, 1) := x_ins (j := 55) kk123 ia123 rfl
theorem i123_150 {xs : List Int32} : xtI (xTa xs) 123 150 = some (.bipush (-9), 2) := x_ins (j := 56) kk123 ia123 rfl
theorem i123_152 {xs : List Int32} : xtI (xTa xs) 123 152 = some (.ireturn, 1) := x_ins (j := 57) kk123 ia123 rfl
theorem kk124 : xK0.getD 124 [] = k124 := rfl
set_option maxRecDepth 100000 in
theorem ia124 : (k124.all fun e => decide (k124.lookup e.1 = some e.2)) = true := by decide +kernel
theorem i124_0 {xs : List Int32} : xtI (xTa xs) 124 0 = some (.aload_n 0, 1) := x_ins (j := 0) kk124 ia124 rfl
theorem i124_1 {xs : List Int32} : xtI (xTa xs) 124 1 = some (.getfield 21, 3) := x_ins (j := 1) kk124 ia124 rfl
theorem i124_4 {xs : List Int32} : xtI (xTa xs) 124 4 = some (.iload_n 1, 1) := x_ins (j := 2) kk124 ia124 rfl
theorem i124_5 {xs : List Int32} : xtI (xTa xs) 124 5 = some (.invokevirtual 93, 3) := x_ins (j := 3) kk124 ia124 rfl
theorem i124_8 {xs : List Int32} : xtI (xTa xs) 124 8 = some (.astore_n 2, 1) := x_ins (j := 4) kk124 ia124 rfl
theorem i124_9 {xs : List Int32} : xtI (xTa xs) 124 9 = some (.aload_n 2, 1) := x_ins (j := 5) kk124 ia124 rfl
theorem i124_10 {xs : List Int32} : xtI (xTa xs) 124 10 = some (.ifnonnull 8, 3) := x_ins (j := 6) kk124 ia124 rfl
theorem i124_13 {xs : List Int32} : xtI (xTa xs) 124 13 = some (.bipush (-9), 2) := x_ins (j := 7) kk124 ia124 rfl
theorem i124_15 {xs : List Int32} : xtI (xTa xs) 124 15 = some (.goto 4, 3) := x_ins (j := 8) kk124 ia124 rfl
theorem i124_18 {xs : List Int32} : xtI (xTa xs) 124 18 = some (.iconst (-1), 1) := x_ins (j := 9) kk124 ia124 rfl
theorem i124_19 {xs : List Int32} : xtI (xTa xs) 124 19 = some (.istore_n 3, 1) := x_ins (j := 10) kk124 ia124 rfl
theorem i124_20 {xs : List Int32} : xtI (xTa xs) 124 20 = some (.aload_n 2, 1) := x_ins (j := 11) kk124 ia124 rfl
theorem i124_21 {xs : List Int32} : xtI (xTa xs) 124 21 = some (.ifnull 45, 3) := x_ins (j := 12) kk124 ia124 rfl
theorem i124_24 {xs : List Int32} : xtI (xTa xs) 124 24 = some (.aload_n 0, 1) := x_ins (j := 13) kk124 ia124 rfl
theorem i124_25 {xs : List Int32} : xtI (xTa xs) 124 25 = some (.getfield 14, 3) := x_ins (j := 14) kk124 ia124 rfl
theorem i124_28 {xs : List Int32} : xtI (xTa xs) 124 28 = some (.iconst 0, 1) := x_ins (j := 15) kk124 ia124 rfl
theorem i124_29 {xs : List Int32} : xtI (xTa xs) 124 29 = some (.aload_n 0, 1) := x_ins (j := 16) kk124 ia124 rfl
theorem i124_30 {xs : List Int32} : xtI (xTa xs) 124 30 = some (.getfield 14, 3) := x_ins (j := 17) kk124 ia124 rfl
theorem i124_33 {xs : List Int32} : xtI (xTa xs) 124 33 = some (.getfield 63, 3) := x_ins (j := 18) kk124 ia124 rfl
theorem i124_36 {xs : List Int32} : xtI (xTa xs) 124 36 = some (.invokevirtual 219, 3) := x_ins (j := 19) kk124 ia124 rfl
theorem i124_39 {xs : List Int32} : xtI (xTa xs) 124 39 = some (.ifCond .eq 27, 3) := x_ins (j := 20) kk124 ia124 rfl
theorem i124_42 {xs : List Int32} : xtI (xTa xs) 124 42 = some (.aload_n 0, 1) := x_ins (j := 21) kk124 ia124 rfl
theorem i124_43 {xs : List Int32} : xtI (xTa xs) 124 43 = some (.getfield 21, 3) := x_ins (j := 22) kk124 ia124 rfl
theorem i124_46 {xs : List Int32} : xtI (xTa xs) 124 46 = some (.aload_n 0, 1) := x_ins (j := 23) kk124 ia124 rfl
theorem i124_47 {xs : List Int32} : xtI (xTa xs) 124 47 = some (.getfield 14, 3) := x_ins (j := 24) kk124 ia124 rfl
theorem i124_50 {xs : List Int32} : xtI (xTa xs) 124 50 = some (.iconst 0, 1) := x_ins (j := 25) kk124 ia124 rfl
theorem i124_51 {xs : List Int32} : xtI (xTa xs) 124 51 = some (.aload_n 0, 1) := x_ins (j := 26) kk124 ia124 rfl
theorem i124_52 {xs : List Int32} : xtI (xTa xs) 124 52 = some (.getfield 14, 3) := x_ins (j := 27) kk124 ia124 rfl
theorem i124_55 {xs : List Int32} : xtI (xTa xs) 124 55 = some (.getfield 63, 3) := x_ins (j := 28) kk124 ia124 rfl
theorem i124_58 {xs : List Int32} : xtI (xTa xs) 124 58 = some (.aload_n 2, 1) := x_ins (j := 29) kk124 ia124 rfl
theorem i124_59 {xs : List Int32} : xtI (xTa xs) 124 59 = some (.invokevirtual 215, 3) := x_ins (j := 30) kk124 ia124 rfl
theorem i124_62 {xs : List Int32} : xtI (xTa xs) 124 62 = some (.invokestatic 146, 3) := x_ins (j := 31) kk124 ia124 rfl
theorem i124_65 {xs : List Int32} : xtI (xTa xs) 124 65 = some (.istore_n 3, 1) := x_ins (j := 32) kk124 ia124 rfl
theorem i124_66 {xs : List Int32} : xtI (xTa xs) 124 66 = some (.aload_n 0, 1) := x_ins (j := 33) kk124 ia124 rfl
theorem i124_67 {xs : List Int32} : xtI (xTa xs) 124 67 = some (.getfield 14, 3) := x_ins (j := 34) kk124 ia124 rfl
theorem i124_70 {xs : List Int32} : xtI (xTa xs) 124 70 = some (.iconst 0, 1) := x_ins (j := 35) kk124 ia124 rfl
theorem i124_71 {xs : List Int32} : xtI (xTa xs) 124 71 = some (.invokevirtual 70, 3) := x_ins (j := 36) kk124 ia124 rfl
theorem i124_74 {xs : List Int32} : xtI (xTa xs) 124 74 = some (.iload_n 3, 1) := x_ins (j := 37) kk124 ia124 rfl
theorem i124_75 {xs : List Int32} : xtI (xTa xs) 124 75 = some (.ireturn, 1) := x_ins (j := 38) kk124 ia124 rfl
theorem kk125 : xK0.getD 125 [] = k125 := rfl
set_option maxRecDepth 100000 in
theorem ia125 : (k125.all fun e => decide (k125.lookup e.1 = some e.2)) = true := by decide +kernel
theorem i125_0 {xs : List Int32} : xtI (xTa xs) 125 0 = some (.aload_n 0, 1) := x_ins (j := 0) kk125 ia125 rfl
theorem i125_1 {xs : List Int32} : xtI (xTa xs) 125 1 = some (.getfield 21, 3) := x_ins (j := 1) kk125 ia125 rfl
theorem i125_4 {xs : List Int32} : xtI (xTa xs) 125 4 = some (.iload_n 1, 1) := x_ins (j := 2) kk125 ia125 rfl
theorem i125_5 {xs : List Int32} : xtI (xTa xs) 125 5 = some (.invokevirtual 93, 3) := x_ins (j := 3) kk125 ia125 rfl
theorem i125_8 {xs : List Int32} : xtI (xTa xs) 125 8 = some (.astore 4, 2) := x_ins (j := 4) kk125 ia125 rfl
theorem i125_10 {xs : List Int32} : xtI (xTa xs) 125 10 = some (.aload 4, 2) := x_ins (j := 5) kk125 ia125 rfl
theorem i125_12 {xs : List Int32} : xtI (xTa xs) 125 12 = some (.ifnull 24, 3) := x_ins (j := 6) kk125 ia125 rfl
theorem i125_15 {xs : List Int32} : xtI (xTa xs) 125 15 = some (.iload_n 2, 1) := x_ins (j := 7) kk125 ia125 rfl
theorem i125_16 {xs : List Int32} : xtI (xTa xs) 125 16 = some (.bipush 12, 2) := x_ins (j := 8) kk125 ia125 rfl
theorem i125_18 {xs : List Int32} : xtI (xTa xs) 125 18 = some (.if_icmp .lt 18, 3) := x_ins (j := 9) kk125 ia125 rfl
theorem i125_21 {xs : List Int32} : xtI (xTa xs) 125 21 = some (.iload_n 2, 1) := x_ins (j := 10) kk125 ia125 rfl
theorem i125_22 {xs : List Int32} : xtI (xTa xs) 125 22 = some (.bipush 60, 2) := x_ins (j := 11) kk125 ia125 rfl
theorem i125_24 {xs : List Int32} : xtI (xTa xs) 125 24 = some (.if_icmp .gt 12, 3) := x_ins (j := 12) kk125 ia125 rfl
theorem i125_27 {xs : List Int32} : xtI (xTa xs) 125 27 = some (.iload_n 3, 1) := x_ins (j := 13) kk125 ia125 rfl
theorem i125_28 {xs : List Int32} : xtI (xTa xs) 125 28 = some (.ifCond .lt 8, 3) := x_ins (j := 14) kk125 ia125 rfl
theorem i125_31 {xs : List Int32} : xtI (xTa xs) 125 31 = some (.iload_n 3, 1) := x_ins (j := 15) kk125 ia125 rfl
theorem i125_32 {xs : List Int32} : xtI (xTa xs) 125 32 = some (.iconst 1, 1) := x_ins (j := 16) kk125 ia125 rfl
theorem i125_33 {xs : List Int32} : xtI (xTa xs) 125 33 = some (.if_icmp .le 5, 3) := x_ins (j := 17) kk125 ia125 rfl
theorem i125_36 {xs : List Int32} : xtI (xTa xs) 125 36 = some (.iconst (-1), 1) := x_ins (j := 18) kk125 ia125 rfl
theorem i125_37 {xs : List Int32} : xtI (xTa xs) 125 37 = some (.ireturn, 1) := x_ins (j := 19) kk125 ia125 rfl
theorem i125_38 {xs : List Int32} : xtI (xTa xs) 125 38 = some (.aload_n 0, 1) := x_ins (j := 20) kk125 ia125 rfl
theorem i125_39 {xs : List Int32} : xtI (xTa xs) 125 39 = some (.getfield 21, 3) := x_ins (j := 21) kk125 ia125 rfl
theorem i125_42 {xs : List Int32} : xtI (xTa xs) 125 42 = some (.aload 4, 2) := x_ins (j := 22) kk125 ia125 rfl
theorem i125_44 {xs : List Int32} : xtI (xTa xs) 125 44 = some (.invokevirtual 162, 3) := x_ins (j := 23) kk125 ia125 rfl
theorem i125_47 {xs : List Int32} : xtI (xTa xs) 125 47 = some (.astore 5, 2) := x_ins (j := 24) kk125 ia125 rfl
theorem i125_49 {xs : List Int32} : xtI (xTa xs) 125 49 = some (.aload_n 0, 1) := x_ins (j := 25) kk125 ia125 rfl
theorem i125_50 {xs : List Int32} : xtI (xTa xs) 125 50 = some (.getfield 35, 3) := x_ins (j := 26) kk125 ia125 rfl
theorem i125_53 {xs : List Int32} : xtI (xTa xs) 125 53 = some (.invokevirtual 222, 3) := x_ins (j := 27) kk125 ia125 rfl
theorem i125_56 {xs : List Int32} : xtI (xTa xs) 125 56 = some (.aload_n 0, 1) := x_ins (j := 28) kk125 ia125 rfl
theorem i125_57 {xs : List Int32} : xtI (xTa xs) 125 57 = some (.getfield 35, 3) := x_ins (j := 29) kk125 ia125 rfl
theorem i125_60 {xs : List Int32} : xtI (xTa xs) 125 60 = some (.aload_n 0, 1) := x_ins (j := 30) kk125 ia125 rfl
theorem i125_61 {xs : List Int32} : xtI (xTa xs) 125 61 = some (.getfield 21, 3) := x_ins (j := 31) kk125 ia125 rfl
theorem i125_64 {xs : List Int32} : xtI (xTa xs) 125 64 = some (.aload 5, 2) := x_ins (j := 32) kk125 ia125 rfl
theorem i125_66 {xs : List Int32} : xtI (xTa xs) 125 66 = some (.iconst 0, 1) := x_ins (j := 33) kk125 ia125 rfl
theorem i125_67 {xs : List Int32} : xtI (xTa xs) 125 67 = some (.invokevirtual 225, 3) := x_ins (j := 34) kk125 ia125 rfl
theorem i125_70 {xs : List Int32} : xtI (xTa xs) 125 70 = some (.aload_n 0, 1) := x_ins (j := 35) kk125 ia125 rfl
theorem i125_71 {xs : List Int32} : xtI (xTa xs) 125 71 = some (.getfield 35, 3) := x_ins (j := 36) kk125 ia125 rfl
theorem i125_74 {xs : List Int32} : xtI (xTa xs) 125 74 = some (.aload 5, 2) := x_ins (j := 37) kk125 ia125 rfl
theorem i125_76 {xs : List Int32} : xtI (xTa xs) 125 76 = some (.invokevirtual 229, 3) := x_ins (j := 38) kk125 ia125 rfl
theorem i125_79 {xs : List Int32} : xtI (xTa xs) 125 79 = some (.aload_n 0, 1) := x_ins (j := 39) kk125 ia125 rfl
theorem i125_80 {xs : List Int32} : xtI (xTa xs) 125 80 = some (.getfield 35, 3) := x_ins (j := 40) kk125 ia125 rfl
theorem i125_83 {xs : List Int32} : xtI (xTa xs) 125 83 = some (.aload_n 0, 1) := x_ins (j := 41) kk125 ia125 rfl
theorem i125_84 {xs : List Int32} : xtI (xTa xs) 125 84 = some (.getfield 21, 3) := x_ins (j := 42) kk125 ia125 rfl
theorem i125_87 {xs : List Int32} : xtI (xTa xs) 125 87 = some (.invokevirtual 233, 3) := x_ins (j := 43) kk125 ia125 rfl
theorem i125_90 {xs : List Int32} : xtI (xTa xs) 125 90 = some (.aload_n 0, 1) := x_ins (j := 44) kk125 ia125 rfl
theorem i125_91 {xs : List Int32} : xtI (xTa xs) 125 91 = some (.getfield 35, 3) := x_ins (j := 45) kk125 ia125 rfl
theorem i125_94 {xs : List Int32} : xtI (xTa xs) 125 94 = some (.aload_n 0, 1) := x_ins (j := 46) kk125 ia125 rfl
theorem i125_95 {xs : List Int32} : xtI (xTa xs) 125 95 = some (.getfield 60, 3) := x_ins (j := 47) kk125 ia125 rfl
theorem i125_98 {xs : List Int32} : xtI (xTa xs) 125 98 = some (.aload 4, 2) := x_ins (j := 48) kk125 ia125 rfl
theorem i125_100 {xs : List Int32} : xtI (xTa xs) 125 100 = some (.iload_n 2, 1) := x_ins (j := 49) kk125 ia125 rfl
theorem i125_101 {xs : List Int32} : xtI (xTa xs) 125 101 = some (.iload_n 3, 1) := x_ins (j := 50) kk125 ia125 rfl
theorem i125_102 {xs : List Int32} : xtI (xTa xs) 125 102 = some (.invokevirtual 237, 3) := x_ins (j := 51) kk125 ia125 rfl
theorem i125_105 {xs : List Int32} : xtI (xTa xs) 125 105 = some (.aload_n 0, 1) := x_ins (j := 52) kk125 ia125 rfl
theorem i125_106 {xs : List Int32} : xtI (xTa xs) 125 106 = some (.getfield 60, 3) := x_ins (j := 53) kk125 ia125 rfl
theorem i125_109 {xs : List Int32} : xtI (xTa xs) 125 109 = some (.getfield 241, 3) := x_ins (j := 54) kk125 ia125 rfl
theorem i125_112 {xs : List Int32} : xtI (xTa xs) 125 112 = some (.ifCond .eq 6, 3) := x_ins (j := 55) kk125 ia125 rfl
theorem i125_115 {xs : List Int32} : xtI (xTa xs) 125 115 = some (.bipush (-3), 2) := x_ins (j := 56) kk125 ia125 rfl
theorem i125_117 {xs : List Int32} : xtI (xTa xs) 125 117 = some (.ireturn, 1) := x_ins (j := 57) kk125 ia125 rfl
theorem i125_118 {xs : List Int32} : xtI (xTa xs) 125 118 = some (.aload_n 0, 1) := x_ins (j := 58) kk125 ia125 rfl
theorem i125_119 {xs : List Int32} : xtI (xTa xs) 125 119 = some (.getfield 60, 3) := x_ins (j := 59) kk125 ia125 rfl
theorem i125_122 {xs : List Int32} : xtI (xTa xs) 125 122 = some (.astore 6, 2) := x_ins (j := 60) kk125 ia125 rfl
theorem i125_124 {xs : List Int32} : xtI (xTa xs) 125 124 = some (.aload_n 0, 1) := x_ins (j := 61) kk125 ia125 rfl
theorem i125_125 {xs : List Int32} : xtI (xTa xs) 125 125 = some (.aload_n 0, 1) := x_ins (j := 62) kk125 ia125 rfl
theorem i125_126 {xs : List Int32} : xtI (xTa xs) 125 126 = some (.getfield 56, 3) := x_ins (j := 63) kk125 ia125 rfl
theorem i125_129 {xs : List Int32} : xtI (xTa xs) 125 129 = some (.putfield 60, 3) := x_ins (j := 64) kk125 ia125 rfl
theorem i125_132 {xs : List Int32} : xtI (xTa xs) 125 132 = some (.aload_n 0, 1) := x_ins (j := 65) kk125 ia125 rfl
theorem i125_133 {xs : List Int32} : xtI (xTa xs) 125 133 = some (.aload 6, 2) := x_ins (j := 66) kk125 ia125 rfl
theorem i125_135 {xs : List Int32} : xtI (xTa xs) 125 135 = some (.putfield 56, 3) := x_ins (j := 67) kk125 ia125 rfl
theorem i125_138 {xs : List Int32} : xtI (xTa xs) 125 138 = some (.aload_n 0, 1) := x_ins (j := 68) kk125 ia125 rfl
theorem i125_139 {xs : List Int32} : xtI (xTa xs) 125 139 = some (.getfield 56, 3) := x_ins (j := 69) kk125 ia125 rfl
theorem i125_142 {xs : List Int32} : xtI (xTa xs) 125 142 = some (.getfield 244, 3) := x_ins (j := 70) kk125 ia125 rfl
theorem i125_145 {xs : List Int32} : xtI (xTa xs) 125 145 = some (.ireturn, 1) := x_ins (j := 71) kk125 ia125 rfl
theorem kk126 : xK0.getD 126 [] = k126 := rfl
set_option maxRecDepth 100000 in
theorem ia126 : (k126.all fun e => decide (k126.lookup e.1 = some e.2)) = true := by decide +kernel
theorem i126_0 {xs : List Int32} : xtI (xTa xs) 126 0 = some (.iload_n 1, 1) := x_ins (j := 0) kk126 ia126 rfl
theorem i126_1 {xs : List Int32} : xtI (xTa xs) 126 1 = some (.tableswitch 78 0 4 #[35, 43, 54, 62, 70], 35) := x_ins (j := 1) kk126 ia126 rfl
theorem i126_36 {xs : List Int32} : xtI (xTa xs) 126 36 = some (.aload_n 0, 1) := x_ins (j := 2) kk126 ia126 rfl
theorem i126_37 {xs : List Int32} : xtI (xTa xs) 126 37 = some (.getfield 56, 3) := x_ins (j := 3) kk126 ia126 rfl
theorem i126_40 {xs : List Int32} : xtI (xTa xs) 126 40 = some (.getfield 244, 3) := x_ins (j := 4) kk126 ia126 rfl
theorem i126_43 {xs : List Int32} : xtI (xTa xs) 126 43 = some (.ireturn, 1) := x_ins (j := 5) kk126 ia126 rfl
theorem i126_44 {xs : List Int32} : xtI (xTa xs) 126 44 = some (.aload_n 0, 1) := x_ins (j := 6) kk126 ia126 rfl
theorem i126_45 {xs : List Int32} : xtI (xTa xs) 126 45 = some (.getfield 56, 3) := x_ins (j := 7) kk126 ia126 rfl
theorem i126_48 {xs : List Int32} : xtI (xTa xs) 126 48 = some (.getfield 247, 3) := x_ins (j := 8) kk126 ia126 rfl
theorem i126_51 {xs : List Int32} : xtI (xTa xs) 126 51 = some (.getfield 63, 3) := x_ins (j := 9) kk126 ia126 rfl
theorem i126_54 {xs : List Int32} : xtI (xTa xs) 126 54 = some (.ireturn, 1) := x_ins (j := 10) kk126 ia126 rfl
theorem i126_55 {xs : List Int32} : xtI (xTa xs) 126 55 = some (.aload_n 0, 1) := x_ins (j := 11) kk126 ia126 rfl
theorem i126_56 {xs : List Int32} : xtI (xTa xs) 126 56 = some (.getfield 56, 3) := x_ins (j := 12) kk126 ia126 rfl
theorem i126_59 {xs : List Int32} : xtI (xTa xs) 126 59 = some (.getfield 248, 3) := x_ins (j := 13) kk126 ia126 rfl
theorem i126_62 {xs : List Int32} : xtI (xTa xs) 126 62 = some (.ireturn, 1) := x_ins (j := 14) kk126 ia126 rfl
theorem i126_63 {xs : List Int32} : xtI (xTa xs) 126 63 = some (.aload_n 0, 1) := x_ins (j := 15) kk126 ia126 rfl
theorem i126_64 {xs : List Int32} : xtI (xTa xs) 126 64 = some (.getfield 56, 3) := x_ins (j := 16) kk126 ia126 rfl
theorem i126_67 {xs : List Int32} : xtI (xTa xs) 126 67 = some (.getfield 251, 3) := x_ins (j := 17) kk126 ia126 rfl
theorem i126_70 {xs : List Int32} : xtI (xTa xs) 126 70 = some (.ireturn, 1) := x_ins (j := 18) kk126 ia126 rfl
theorem i126_71 {xs : List Int32} : xtI (xTa xs) 126 71 = some (.aload_n 0, 1) := x_ins (j := 19) kk126 ia126 rfl
theorem i126_72 {xs : List Int32} : xtI (xTa xs) 126 72 = some (.getfield 56, 3) := x_ins (j := 20) kk126 ia126 rfl
theorem i126_75 {xs : List Int32} : xtI (xTa xs) 126 75 = some (.getfield 254, 3) := x_ins (j := 21) kk126 ia126 rfl
theorem i126_78 {xs : List Int32} : xtI (xTa xs) 126 78 = some (.ireturn, 1) := x_ins (j := 22) kk126 ia126 rfl
theorem i126_79 {xs : List Int32} : xtI (xTa xs) 126 79 = some (.iconst (-1), 1) := x_ins (j := 23) kk126 ia126 rfl
theorem i126_80 {xs : List Int32} : xtI (xTa xs) 126 80 = some (.ireturn, 1) := x_ins (j := 24) kk126 ia126 rfl
theorem kk127 : xK0.getD 127 [] = k127 := rfl
set_option maxRecDepth 100000 in
theorem ia127 : (k127.all fun e => decide (k127.lookup e.1 = some e.2)) = true := by decide +kernel
theorem i127_0 {xs : List Int32} : xtI (xTa xs) 127 0 = some (.iconst 0, 1) := x_ins (j := 0) kk127 ia127 rfl
theorem i127_1 {xs : List Int32} : xtI (xTa xs) 127 1 = some (.aload_n 0, 1) := x_ins (j := 1) kk127 ia127 rfl
theorem i127_2 {xs : List Int32} : xtI (xTa xs) 127 2 = some (.getfield 56, 3) := x_ins (j := 2) kk127 ia127 rfl
theorem i127_5 {xs : List Int32} : xtI (xTa xs) 127 5 = some (.getfield 247, 3) := x_ins (j := 3) kk127 ia127 rfl
theorem i127_8 {xs : List Int32} : xtI (xTa xs) 127 8 = some (.iload_n 1, 1) := x_ins (j := 4) kk127 ia127 rfl
theorem i127_9 {xs : List Int32} : xtI (xTa xs) 127 9 = some (.invokevirtual 257, 3) := x_ins (j := 5) kk127 ia127 rfl
theorem i127_12 {xs : List Int32} : xtI (xTa xs) 127 12 = some (.invokestatic 261, 3) := x_ins (j := 6) kk127 ia127 rfl
theorem i127_15 {xs : List Int32} : xtI (xTa xs) 127 15 = some (.ireturn, 1) := x_ins (j := 7) kk127 ia127 rfl
theorem kk128 : xK0.getD 128 [] = k128 := rfl
set_option maxRecDepth 100000 in
theorem ia128 : (k128.all fun e => decide (k128.lookup e.1 = some e.2)) = true := by decide +kernel
theorem i128_0 {xs : List Int32} : xtI (xTa xs) 128 0 = some (.iload_n 1, 1) := x_ins (j := 0) kk128 ia128 rfl
theorem i128_1 {xs : List Int32} : xtI (xTa xs) 128 1 = some (.ifCond .lt 14, 3) := x_ins (j := 1) kk128 ia128 rfl
theorem i128_4 {xs : List Int32} : xtI (xTa xs) 128 4 = some (.iload_n 1, 1) := x_ins (j := 2) kk128 ia128 rfl
theorem i128_5 {xs : List Int32} : xtI (xTa xs) 128 5 = some (.aload_n 0, 1) := x_ins (j := 3) kk128 ia128 rfl
theorem i128_6 {xs : List Int32} : xtI (xTa xs) 128 6 = some (.getfield 56, 3) := x_ins (j := 4) kk128 ia128 rfl
theorem i128_9 {xs : List Int32} : xtI (xTa xs) 128 9 = some (.getfield 244, 3) := x_ins (j := 5) kk128 ia128 rfl
theorem i128_12 {xs : List Int32} : xtI (xTa xs) 128 12 = some (.if_icmp .lt 7, 3) := x_ins (j := 6) kk128 ia128 rfl
theorem i128_15 {xs : List Int32} : xtI (xTa xs) 128 15 = some (.iconst (-1), 1) := x_ins (j := 7) kk128 ia128 rfl
theorem i128_16 {xs : List Int32} : xtI (xTa xs) 128 16 = some (.goto 12, 3) := x_ins (j := 8) kk128 ia128 rfl
theorem i128_19 {xs : List Int32} : xtI (xTa xs) 128 19 = some (.aload_n 0, 1) := x_ins (j := 9) kk128 ia128 rfl
theorem i128_20 {xs : List Int32} : xtI (xTa xs) 128 20 = some (.getfield 56, 3) := x_ins (j := 10) kk128 ia128 rfl
theorem i128_23 {xs : List Int32} : xtI (xTa xs) 128 23 = some (.getfield 267, 3) := x_ins (j := 11) kk128 ia128 rfl
theorem i128_26 {xs : List Int32} : xtI (xTa xs) 128 26 = some (.iload_n 1, 1) := x_ins (j := 12) kk128 ia128 rfl
theorem i128_27 {xs : List Int32} : xtI (xTa xs) 128 27 = some (.iaload, 1) := x_ins (j := 13) kk128 ia128 rfl
theorem i128_28 {xs : List Int32} : xtI (xTa xs) 128 28 = some (.ireturn, 1) := x_ins (j := 14) kk128 ia128 rfl
theorem kk129 : xK0.getD 129 [] = k129 := rfl
set_option maxRecDepth 100000 in
theorem ia129 : (k129.all fun e => decide (k129.lookup e.1 = some e.2)) = true := by decide +kernel
theorem i129_0 {xs : List Int32} : xtI (xTa xs) 129 0 = some (.aload_n 0, 1) := x_ins (j := 0) kk129 ia129 rfl
theorem i129_1 {xs : List Int32} : xtI (xTa xs) 129 1 = some (.getfield 56, 3) := x_ins (j := 1) kk129 ia129 rfl
theorem i129_4 {xs : List Int32} : xtI (xTa xs) 129 4 = some (.iload_n 1, 1) := x_ins (j := 2) kk129 ia129 rfl
theorem i129_5 {xs : List Int32} : xtI (xTa xs) 129 5 = some (.invokevirtual 271, 3) := x_ins (j := 3) kk129 ia129 rfl
theorem i129_8 {xs : List Int32} : xtI (xTa xs) 129 8 = some (.invokestatic 146, 3) := x_ins (j := 4) kk129 ia129 rfl
theorem i129_11 {xs : List Int32} : xtI (xTa xs) 129 11 = some (.ireturn, 1) := x_ins (j := 5) kk129 ia129 rfl
theorem kk130 : xK0.getD 130 [] = k130 := rfl
set_option maxRecDepth 100000 in
theorem ia130 : (k130.all fun e => decide (k130.lookup e.1 = some e.2)) = true := by decide +kernel
theorem i130_0 {xs : List Int32} : xtI (xTa xs) 130 0 = some (.aload_n 0, 1) := x_ins (j := 0) kk130 ia130 rfl
theorem i130_1 {xs : List Int32} : xtI (xTa xs) 130 1 = some (.getfield 21, 3) := x_ins (j := 1) kk130 ia130 rfl
theorem i130_4 {xs : List Int32} : xtI (xTa xs) 130 4 = some (.iload_n 1, 1) := x_ins (j := 2) kk130 ia130 rfl
theorem i130_5 {xs : List Int32} : xtI (xTa xs) 130 5 = some (.invokevirtual 93, 3) := x_ins (j := 3) kk130 ia130 rfl
theorem i130_8 {xs : List Int32} : xtI (xTa xs) 130 8 = some (.astore_n 2, 1) := x_ins (j := 4) kk130 ia130 rfl
theorem i130_9 {xs : List Int32} : xtI (xTa xs) 130 9 = some (.aload_n 2, 1) := x_ins (j := 5) kk130 ia130 rfl
theorem i130_10 {xs : List Int32} : xtI (xTa xs) 130 10 = some (.ifnonnull 5, 3) := x_ins (j := 6) kk130 ia130 rfl
theorem i130_13 {xs : List Int32} : xtI (xTa xs) 130 13 = some (.iconst (-1), 1) := x_ins (j := 7) kk130 ia130 rfl
theorem i130_14 {xs : List Int32} : xtI (xTa xs) 130 14 = some (.ireturn, 1) := x_ins (j := 8) kk130 ia130 rfl
theorem i130_15 {xs : List Int32} : xtI (xTa xs) 130 15 = some (.aload_n 0, 1) := x_ins (j := 9) kk130 ia130 rfl
theorem i130_16 {xs : List Int32} : xtI (xTa xs) 130 16 = some (.getfield 42, 3) := x_ins (j := 10) kk130 ia130 rfl
theorem i130_19 {xs : List Int32} : xtI (xTa xs) 130 19 = some (.aload_n 0, 1) := x_ins (j := 11) kk130 ia130 rfl
theorem i130_20 {xs : List Int32} : xtI (xTa xs) 130 20 = some (.getfield 21, 3) := x_ins (j := 12) kk130 ia130 rfl
theorem i130_23 {xs : List Int32} : xtI (xTa xs) 130 23 = some (.aload_n 2, 1) := x_ins (j := 13) kk130 ia130 rfl
theorem i130_24 {xs : List Int32} : xtI (xTa xs) 130 24 = some (.invokevirtual 274, 3) := x_ins (j := 14) kk130 ia130 rfl
theorem i130_27 {xs : List Int32} : xtI (xTa xs) 130 27 = some (.aload_n 0, 1) := x_ins (j := 15) kk130 ia130 rfl
theorem i130_28 {xs : List Int32} : xtI (xTa xs) 130 28 = some (.getfield 42, 3) := x_ins (j := 16) kk130 ia130 rfl
theorem i130_31 {xs : List Int32} : xtI (xTa xs) 130 31 = some (.getfield 278, 3) := x_ins (j := 17) kk130 ia130 rfl
theorem i130_34 {xs : List Int32} : xtI (xTa xs) 130 34 = some (.ireturn, 1) := x_ins (j := 18) kk130 ia130 rfl
theorem kk131 : xK0.getD 131 [] = k131 := rfl
set_option maxRecDepth 100000 in
theorem ia131 : (k131.all fun e => decide (k131.lookup e.1 = some e.2)) = true := by decide +kernel
theorem i131_0 {xs : List Int32} : xtI (xTa xs) 131 0 = some (.iload_n 1, 1) := x_ins (j := 0) kk131 ia131 rfl
theorem i131_1 {xs : List Int32} : xtI (xTa xs) 131 1 = some (.ifCond .lt 14, 3) := x_ins (j := 1) kk131 ia131 rfl
theorem i131_4 {xs : List Int32} : xtI (xTa xs) 131 4 = some (.iload_n 1, 1) := x_ins (j := 2) kk131 ia131 rfl
theorem i131_5 {xs : List Int32} : xtI (xTa xs) 131 5 = some (.aload_n 0, 1) := x_ins (j := 3) kk131 ia131 rfl
theorem i131_6 {xs : List Int32} : xtI (xTa xs) 131 6 = some (.getfield 42, 3) := x_ins (j := 4) kk131 ia131 rfl
theorem i131_9 {xs : List Int32} : xtI (xTa xs) 131 9 = some (.getfield 278, 3) := x_ins (j := 5) kk131 ia131 rfl
theorem i131_12 {xs : List Int32} : xtI (xTa xs) 131 12 = some (.if_icmp .lt 5, 3) := x_ins (j := 6) kk131 ia131 rfl
theorem i131_15 {xs : List Int32} : xtI (xTa xs) 131 15 = some (.iconst (-1), 1) := x_ins (j := 7) kk131 ia131 rfl
theorem i131_16 {xs : List Int32} : xtI (xTa xs) 131 16 = some (.ireturn, 1) := x_ins (j := 8) kk131 ia131 rfl
theorem i131_17 {xs : List Int32} : xtI (xTa xs) 131 17 = some (.iload_n 2, 1) := x_ins (j := 9) kk131 ia131 rfl
theorem i131_18 {xs : List Int32} : xtI (xTa xs) 131 18 = some (.lookupswitch 46 #[(0, 26), (1, 36)], 26) := x_ins (j := 10) kk131 ia131 rfl
theorem i131_44 {xs : List Int32} : xtI (xTa xs) 131 44 = some (.aload_n 0, 1) := x_ins (j := 11) kk131 ia131 rfl
theorem i131_45 {xs : List Int32} : xtI (xTa xs) 131 45 = some (.getfield 42, 3) := x_ins (j := 12) kk131 ia131 rfl
theorem i131_48 {xs : List Int32} : xtI (xTa xs) 131 48 = some (.getfield 279, 3) := x_ins (j := 13) kk131 ia131 rfl
theorem i131_51 {xs : List Int32} : xtI (xTa xs) 131 51 = some (.iload_n 1, 1) := x_ins (j := 14) kk131 ia131 rfl
theorem i131_52 {xs : List Int32} : xtI (xTa xs) 131 52 = some (.iaload, 1) := x_ins (j := 15) kk131 ia131 rfl
theorem i131_53 {xs : List Int32} : xtI (xTa xs) 131 53 = some (.ireturn, 1) := x_ins (j := 16) kk131 ia131 rfl
theorem i131_54 {xs : List Int32} : xtI (xTa xs) 131 54 = some (.aload_n 0, 1) := x_ins (j := 17) kk131 ia131 rfl
theorem i131_55 {xs : List Int32} : xtI (xTa xs) 131 55 = some (.getfield 42, 3) := x_ins (j := 18) kk131 ia131 rfl
theorem i131_58 {xs : List Int32} : xtI (xTa xs) 131 58 = some (.getfield 282, 3) := x_ins (j := 19) kk131 ia131 rfl
theorem i131_61 {xs : List Int32} : xtI (xTa xs) 131 61 = some (.iload_n 1, 1) := x_ins (j := 20) kk131 ia131 rfl
theorem i131_62 {xs : List Int32} : xtI (xTa xs) 131 62 = some (.iaload, 1) := x_ins (j := 21) kk131 ia131 rfl
theorem i131_63 {xs : List Int32} : xtI (xTa xs) 131 63 = some (.ireturn, 1) := x_ins (j := 22) kk131 ia131 rfl
theorem i131_64 {xs : List Int32} : xtI (xTa xs) 131 64 = some (.iconst (-1), 1) := x_ins (j := 23) kk131 ia131 rfl
theorem i131_65 {xs : List Int32} : xtI (xTa xs) 131 65 = some (.ireturn, 1) := x_ins (j := 24) kk131 ia131 rfl
theorem kk132 : xK0.getD 132 [] = k132 := rfl
set_option maxRecDepth 100000 in
theorem ia132 : (k132.all fun e => decide (k132.lookup e.1 = some e.2)) = true := by decide +kernel
theorem i132_0 {xs : List Int32} : xtI (xTa xs) 132 0 = some (.iload_n 1, 1) := x_ins (j := 0) kk132 ia132 rfl
theorem i132_1 {xs : List Int32} : xtI (xTa xs) 132 1 = some (.tableswitch 63 0 3 #[31, 39, 47, 55], 31) := x_ins (j := 1) kk132 ia132 rfl
theorem i132_32 {xs : List Int32} : xtI (xTa xs) 132 32 = some (.aload_n 0, 1) := x_ins (j := 2) kk132 ia132 rfl
theorem i132_33 {xs : List Int32} : xtI (xTa xs) 132 33 = some (.getfield 21, 3) := x_ins (j := 3) kk132 ia132 rfl
theorem i132_36 {xs : List Int32} : xtI (xTa xs) 132 36 = some (.getfield 285, 3) := x_ins (j := 4) kk132 ia132 rfl
theorem i132_39 {xs : List Int32} : xtI (xTa xs) 132 39 = some (.ireturn, 1) := x_ins (j := 5) kk132 ia132 rfl
theorem i132_40 {xs : List Int32} : xtI (xTa xs) 132 40 = some (.aload_n 0, 1) := x_ins (j := 6) kk132 ia132 rfl
theorem i132_41 {xs : List Int32} : xtI (xTa xs) 132 41 = some (.getfield 21, 3) := x_ins (j := 7) kk132 ia132 rfl
theorem i132_44 {xs : List Int32} : xtI (xTa xs) 132 44 = some (.invokevirtual 286, 3) := x_ins (j := 8) kk132 ia132 rfl
theorem i132_47 {xs : List Int32} : xtI (xTa xs) 132 47 = some (.ireturn, 1) := x_ins (j := 9) kk132 ia132 rfl
theorem i132_48 {xs : List Int32} : xtI (xTa xs) 132 48 = some (.aload_n 0, 1) := x_ins (j := 10) kk132 ia132 rfl
theorem i132_49 {xs : List Int32} : xtI (xTa xs) 132 49 = some (.getfield 14, 3) := x_ins (j := 11) kk132 ia132 rfl
theorem i132_52 {xs : List Int32} : xtI (xTa xs) 132 52 = some (.getfield 63, 3) := x_ins (j := 12) kk132 ia132 rfl
theorem i132_55 {xs : List Int32} : xtI (xTa xs) 132 55 = some (.ireturn, 1) := x_ins (j := 13) kk132 ia132 rfl
theorem i132_56 {xs : List Int32} : xtI (xTa xs) 132 56 = some (.aload_n 0, 1) := x_ins (j := 14) kk132 ia132 rfl
theorem i132_57 {xs : List Int32} : xtI (xTa xs) 132 57 = some (.getfield 21, 3) := x_ins (j := 15) kk132 ia132 rfl
theorem i132_60 {xs : List Int32} : xtI (xTa xs) 132 60 = some (.invokevirtual 290, 3) := x_ins (j := 16) kk132 ia132 rfl
theorem i132_63 {xs : List Int32} : xtI (xTa xs) 132 63 = some (.ireturn, 1) := x_ins (j := 17) kk132 ia132 rfl
theorem i132_64 {xs : List Int32} : xtI (xTa xs) 132 64 = some (.iconst (-1), 1) := x_ins (j := 18) kk132 ia132 rfl
theorem i132_65 {xs : List Int32} : xtI (xTa xs) 132 65 = some (.ireturn, 1) := x_ins (j := 19) kk132 ia132 rfl
theorem kk133 : xK0.getD 133 [] = k133 := rfl
set_option maxRecDepth 100000 in
theorem ia133 : (k133.all fun e => decide (k133.lookup e.1 = some e.2)) = true := by decide +kernel
theorem i133_0 {xs : List Int32} : xtI (xTa xs) 133 0 = some (.aload_n 0, 1) := x_ins (j := 0) kk133 ia133 rfl
theorem i133_1 {xs : List Int32} : xtI (xTa xs) 133 1 = some (.getfield 21, 3) := x_ins (j := 1) kk133 ia133 rfl
theorem i133_4 {xs : List Int32} : xtI (xTa xs) 133 4 = some (.iload_n 1, 1) := x_ins (j := 2) kk133 ia133 rfl
theorem i133_5 {xs : List Int32} : xtI (xTa xs) 133 5 = some (.invokevirtual 93, 3) := x_ins (j := 3) kk133 ia133 rfl
theorem i133_8 {xs : List Int32} : xtI (xTa xs) 133 8 = some (.astore_n 2, 1) := x_ins (j := 4) kk133 ia133 rfl
theorem i133_9 {xs : List Int32} : xtI (xTa xs) 133 9 = some (.aload_n 2, 1) := x_ins (j := 5) kk133 ia133 rfl
theorem i133_10 {xs : List Int32} : xtI (xTa xs) 133 10 = some (.ifnonnull 7, 3) := x_ins (j := 6) kk133 ia133 rfl
theorem i133_13 {xs : List Int32} : xtI (xTa xs) 133 13 = some (.aconst_null, 1) := x_ins (j := 7) kk133 ia133 rfl
theorem i133_14 {xs : List Int32} : xtI (xTa xs) 133 14 = some (.goto 7, 3) := x_ins (j := 8) kk133 ia133 rfl
theorem i133_17 {xs : List Int32} : xtI (xTa xs) 133 17 = some (.aload_n 2, 1) := x_ins (j := 9) kk133 ia133 rfl
theorem i133_18 {xs : List Int32} : xtI (xTa xs) 133 18 = some (.invokevirtual 138, 3) := x_ins (j := 10) kk133 ia133 rfl
theorem i133_21 {xs : List Int32} : xtI (xTa xs) 133 21 = some (.areturn, 1) := x_ins (j := 11) kk133 ia133 rfl
theorem kk134 : xK0.getD 134 [] = k134 := rfl
set_option maxRecDepth 100000 in
theorem ia134 : (k134.all fun e => decide (k134.lookup e.1 = some e.2)) = true := by decide +kernel
theorem i134_0 {xs : List Int32} : xtI (xTa xs) 134 0 = some (.aload_n 0, 1) := x_ins (j := 0) kk134 ia134 rfl
theorem i134_1 {xs : List Int32} : xtI (xTa xs) 134 1 = some (.ifnonnull 7, 3) := x_ins (j := 1) kk134 ia134 rfl
theorem i134_4 {xs : List Int32} : xtI (xTa xs) 134 4 = some (.iconst (-1), 1) := x_ins (j := 2) kk134 ia134 rfl
theorem i134_5 {xs : List Int32} : xtI (xTa xs) 134 5 = some (.goto 7, 3) := x_ins (j := 3) kk134 ia134 rfl
theorem i134_8 {xs : List Int32} : xtI (xTa xs) 134 8 = some (.aload_n 0, 1) := x_ins (j := 4) kk134 ia134 rfl
theorem i134_9 {xs : List Int32} : xtI (xTa xs) 134 9 = some (.getfield 293, 3) := x_ins (j := 5) kk134 ia134 rfl
theorem i134_12 {xs : List Int32} : xtI (xTa xs) 134 12 = some (.ireturn, 1) := x_ins (j := 6) kk134 ia134 rfl
theorem kk135 : xK0.getD 135 [] = k135 := rfl
set_option maxRecDepth 100000 in
theorem ia135 : (k135.all fun e => decide (k135.lookup e.1 = some e.2)) = true := by decide +kernel
theorem i135_0 {xs : List Int32} : xtI (xTa xs) 135 0 = some (.iload_n 0, 1) := x_ins (j := 0) kk135 ia135 rfl
theorem i135_1 {xs : List Int32} : xtI (xTa xs) 135 1 = some (.iload_n 1, 1) := x_ins (j := 1) kk135 ia135 rfl
theorem i135_2 {xs : List Int32} : xtI (xTa xs) 135 2 = some (.if_icmp .lt 12, 3) := x_ins (j := 2) kk135 ia135 rfl
theorem i135_5 {xs : List Int32} : xtI (xTa xs) 135 5 = some (.iload_n 0, 1) := x_ins (j := 3) kk135 ia135 rfl
theorem i135_6 {xs : List Int32} : xtI (xTa xs) 135 6 = some (.iload_n 2, 1) := x_ins (j := 4) kk135 ia135 rfl
theorem i135_7 {xs : List Int32} : xtI (xTa xs) 135 7 = some (.if_icmp .gt 7, 3) := x_ins (j := 5) kk135 ia135 rfl
theorem i135_10 {xs : List Int32} : xtI (xTa xs) 135 10 = some (.iconst 1, 1) := x_ins (j := 6) kk135 ia135 rfl
theorem i135_11 {xs : List Int32} : xtI (xTa xs) 135 11 = some (.goto 4, 3) := x_ins (j := 7) kk135 ia135 rfl
theorem i135_14 {xs : List Int32} : xtI (xTa xs) 135 14 = some (.iconst 0, 1) := x_ins (j := 8) kk135 ia135 rfl
theorem i135_15 {xs : List Int32} : xtI (xTa xs) 135 15 = some (.ireturn, 1) := x_ins (j := 9) kk135 ia135 rfl
theorem kk136 : xK0.getD 136 [] = k136 := rfl
set_option maxRecDepth 100000 in
theorem ia136 : (k136.all fun e => decide (k136.lookup e.1 = some e.2)) = true := by decide +kernel
theorem i136_0 {xs : List Int32} : xtI (xTa xs) 136 0 = some (.iload_n 0, 1) := x_ins (j := 0) kk136 ia136 rfl
theorem i136_1 {xs : List Int32} : xtI (xTa xs) 136 1 = some (.bipush 48, 2) := x_ins (j := 1) kk136 ia136 rfl
theorem i136_3 {xs : List Int32} : xtI (xTa xs) 136 3 = some (.if_icmp .lt 13, 3) := x_ins (j := 2) kk136 ia136 rfl
theorem i136_6 {xs : List Int32} : xtI (xTa xs) 136 6 = some (.iload_n 0, 1) := x_ins (j := 3) kk136 ia136 rfl
theorem i136_7 {xs : List Int32} : xtI (xTa xs) 136 7 = some (.bipush 57, 2) := x_ins (j := 4) kk136 ia136 rfl
theorem i136_9 {xs : List Int32} : xtI (xTa xs) 136 9 = some (.if_icmp .gt 7, 3) := x_ins (j := 5) kk136 ia136 rfl
theorem i136_12 {xs : List Int32} : xtI (xTa xs) 136 12 = some (.iconst 1, 1) := x_ins (j := 6) kk136 ia136 rfl
theorem i136_13 {xs : List Int32} : xtI (xTa xs) 136 13 = some (.goto 4, 3) := x_ins (j := 7) kk136 ia136 rfl
theorem i136_16 {xs : List Int32} : xtI (xTa xs) 136 16 = some (.iconst 0, 1) := x_ins (j := 8) kk136 ia136 rfl
theorem i136_17 {xs : List Int32} : xtI (xTa xs) 136 17 = some (.ireturn, 1) := x_ins (j := 9) kk136 ia136 rfl
theorem kk137 : xK0.getD 137 [] = k137 := rfl
set_option maxRecDepth 100000 in
theorem ia137 : (k137.all fun e => decide (k137.lookup e.1 = some e.2)) = true := by decide +kernel
theorem i137_0 {xs : List Int32} : xtI (xTa xs) 137 0 = some (.iload_n 0, 1) := x_ins (j := 0) kk137 ia137 rfl
theorem i137_1 {xs : List Int32} : xtI (xTa xs) 137 1 = some (.bipush 65, 2) := x_ins (j := 1) kk137 ia137 rfl
theorem i137_3 {xs : List Int32} : xtI (xTa xs) 137 3 = some (.if_icmp .lt 9, 3) := x_ins (j := 2) kk137 ia137 rfl
theorem i137_6 {xs : List Int32} : xtI (xTa xs) 137 6 = some (.iload_n 0, 1) := x_ins (j := 3) kk137 ia137 rfl
theorem i137_7 {xs : List Int32} : xtI (xTa xs) 137 7 = some (.bipush 90, 2) := x_ins (j := 4) kk137 ia137 rfl
theorem i137_9 {xs : List Int32} : xtI (xTa xs) 137 9 = some (.if_icmp .le 15, 3) := x_ins (j := 5) kk137 ia137 rfl
theorem i137_12 {xs : List Int32} : xtI (xTa xs) 137 12 = some (.iload_n 0, 1) := x_ins (j := 6) kk137 ia137 rfl
theorem i137_13 {xs : List Int32} : xtI (xTa xs) 137 13 = some (.bipush 97, 2) := x_ins (j := 7) kk137 ia137 rfl
theorem i137_15 {xs : List Int32} : xtI (xTa xs) 137 15 = some (.if_icmp .lt 13, 3) := x_ins (j := 8) kk137 ia137 rfl
theorem i137_18 {xs : List Int32} : xtI (xTa xs) 137 18 = some (.iload_n 0, 1) := x_ins (j := 9) kk137 ia137 rfl
theorem i137_19 {xs : List Int32} : xtI (xTa xs) 137 19 = some (.bipush 122, 2) := x_ins (j := 10) kk137 ia137 rfl
theorem i137_21 {xs : List Int32} : xtI (xTa xs) 137 21 = some (.if_icmp .gt 7, 3) := x_ins (j := 11) kk137 ia137 rfl
theorem i137_24 {xs : List Int32} : xtI (xTa xs) 137 24 = some (.iconst 1, 1) := x_ins (j := 12) kk137 ia137 rfl
theorem i137_25 {xs : List Int32} : xtI (xTa xs) 137 25 = some (.goto 4, 3) := x_ins (j := 13) kk137 ia137 rfl
theorem i137_28 {xs : List Int32} : xtI (xTa xs) 137 28 = some (.iconst 0, 1) := x_ins (j := 14) kk137 ia137 rfl
theorem i137_29 {xs : List Int32} : xtI (xTa xs) 137 29 = some (.ireturn, 1) := x_ins (j := 15) kk137 ia137 rfl
theorem kk138 : xK0.getD 138 [] = k138 := rfl
set_option maxRecDepth 100000 in
theorem ia138 : (k138.all fun e => decide (k138.lookup e.1 = some e.2)) = true := by decide +kernel
theorem i138_0 {xs : List Int32} : xtI (xTa xs) 138 0 = some (.iload_n 0, 1) := x_ins (j := 0) kk138 ia138 rfl
theorem i138_1 {xs : List Int32} : xtI (xTa xs) 138 1 = some (.iconst 2, 1) := x_ins (j := 1) kk138 ia138 rfl
theorem i138_2 {xs : List Int32} : xtI (xTa xs) 138 2 = some (.if_icmp .lt 13, 3) := x_ins (j := 2) kk138 ia138 rfl
theorem i138_5 {xs : List Int32} : xtI (xTa xs) 138 5 = some (.iload_n 0, 1) := x_ins (j := 3) kk138 ia138 rfl
theorem i138_6 {xs : List Int32} : xtI (xTa xs) 138 6 = some (.bipush 6, 2) := x_ins (j := 4) kk138 ia138 rfl
theorem i138_8 {xs : List Int32} : xtI (xTa xs) 138 8 = some (.if_icmp .gt 7, 3) := x_ins (j := 5) kk138 ia138 rfl
theorem i138_11 {xs : List Int32} : xtI (xTa xs) 138 11 = some (.iconst 1, 1) := x_ins (j := 6) kk138 ia138 rfl
theorem i138_12 {xs : List Int32} : xtI (xTa xs) 138 12 = some (.goto 4, 3) := x_ins (j := 7) kk138 ia138 rfl
theorem i138_15 {xs : List Int32} : xtI (xTa xs) 138 15 = some (.iconst 0, 1) := x_ins (j := 8) kk138 ia138 rfl
theorem i138_16 {xs : List Int32} : xtI (xTa xs) 138 16 = some (.ireturn, 1) := x_ins (j := 9) kk138 ia138 rfl
theorem kk139 : xK0.getD 139 [] = k139 := rfl
set_option maxRecDepth 100000 in
theorem ia139 : (k139.all fun e => decide (k139.lookup e.1 = some e.2)) = true := by decide +kernel
theorem i139_0 {xs : List Int32} : xtI (xTa xs) 139 0 = some (.iload_n 0, 1) := x_ins (j := 0) kk139 ia139 rfl
theorem i139_1 {xs : List Int32} : xtI (xTa xs) 139 1 = some (.tableswitch 55 2 6 #[35, 39, 43, 47, 51], 35) := x_ins (j := 1) kk139 ia139 rfl
theorem i139_36 {xs : List Int32} : xtI (xTa xs) 139 36 = some (.ldc_w 296, 3) := x_ins (j := 2) kk139 ia139 rfl
theorem i139_39 {xs : List Int32} : xtI (xTa xs) 139 39 = some (.areturn, 1) := x_ins (j := 3) kk139 ia139 rfl
theorem i139_40 {xs : List Int32} : xtI (xTa xs) 139 40 = some (.ldc_w 298, 3) := x_ins (j := 4) kk139 ia139 rfl
theorem i139_43 {xs : List Int32} : xtI (xTa xs) 139 43 = some (.areturn, 1) := x_ins (j := 5) kk139 ia139 rfl
theorem i139_44 {xs : List Int32} : xtI (xTa xs) 139 44 = some (.ldc_w 300, 3) := x_ins (j := 6) kk139 ia139 rfl
theorem i139_47 {xs : List Int32} : xtI (xTa xs) 139 47 = some (.areturn, 1) := x_ins (j := 7) kk139 ia139 rfl
theorem i139_48 {xs : List Int32} : xtI (xTa xs) 139 48 = some (.ldc_w 302, 3) := x_ins (j := 8) kk139 ia139 rfl
theorem i139_51 {xs : List Int32} : xtI (xTa xs) 139 51 = some (.areturn, 1) := x_ins (j := 9) kk139 ia139 rfl
theorem i139_52 {xs : List Int32} : xtI (xTa xs) 139 52 = some (.ldc_w 304, 3) := x_ins (j := 10) kk139 ia139 rfl
theorem i139_55 {xs : List Int32} : xtI (xTa xs) 139 55 = some (.areturn, 1) := x_ins (j := 11) kk139 ia139 rfl
theorem i139_56 {xs : List Int32} : xtI (xTa xs) 139 56 = some (.ldc_w 306, 3) := x_ins (j := 12) kk139 ia139 rfl
theorem i139_59 {xs : List Int32} : xtI (xTa xs) 139 59 = some (.areturn, 1) := x_ins (j := 13) kk139 ia139 rfl
theorem kk140 : xK0.getD 140 [] = k140 := rfl
set_option maxRecDepth 100000 in
theorem ia140 : (k140.all fun e => decide (k140.lookup e.1 = some e.2)) = true := by decide +kernel
theorem i140_0 {xs : List Int32} : xtI (xTa xs) 140 0 = some (.aload_n 0, 1) := x_ins (j := 0) kk140 ia140 rfl
theorem i140_1 {xs : List Int32} : xtI (xTa xs) 140 1 = some (.invokespecial 3, 3) := x_ins (j := 1) kk140 ia140 rfl
theorem i140_4 {xs : List Int32} : xtI (xTa xs) 140 4 = some (.aload_n 0, 1) := x_ins (j := 2) kk140 ia140 rfl
theorem i140_5 {xs : List Int32} : xtI (xTa xs) 140 5 = some (.sipush 600, 3) := x_ins (j := 3) kk140 ia140 rfl
theorem i140_8 {xs : List Int32} : xtI (xTa xs) 140 8 = some (.newarray .int, 2) := x_ins (j := 4) kk140 ia140 rfl
theorem i140_10 {xs : List Int32} : xtI (xTa xs) 140 10 = some (.putfield 9, 3) := x_ins (j := 5) kk140 ia140 rfl
theorem i140_13 {xs : List Int32} : xtI (xTa xs) 140 13 = some (.aload_n 0, 1) := x_ins (j := 6) kk140 ia140 rfl
theorem i140_14 {xs : List Int32} : xtI (xTa xs) 140 14 = some (.bipush 40, 2) := x_ins (j := 7) kk140 ia140 rfl
theorem i140_16 {xs : List Int32} : xtI (xTa xs) 140 16 = some (.newarray .boolean, 2) := x_ins (j := 8) kk140 ia140 rfl
theorem i140_18 {xs : List Int32} : xtI (xTa xs) 140 18 = some (.putfield 13, 3) := x_ins (j := 9) kk140 ia140 rfl
theorem i140_21 {xs : List Int32} : xtI (xTa xs) 140 21 = some (.aload_n 0, 1) := x_ins (j := 10) kk140 ia140 rfl
theorem i140_22 {xs : List Int32} : xtI (xTa xs) 140 22 = some (.bipush 40, 2) := x_ins (j := 11) kk140 ia140 rfl
theorem i140_24 {xs : List Int32} : xtI (xTa xs) 140 24 = some (.newarray .int, 2) := x_ins (j := 12) kk140 ia140 rfl
theorem i140_26 {xs : List Int32} : xtI (xTa xs) 140 26 = some (.putfield 17, 3) := x_ins (j := 13) kk140 ia140 rfl
theorem i140_29 {xs : List Int32} : xtI (xTa xs) 140 29 = some (.aload_n 0, 1) := x_ins (j := 14) kk140 ia140 rfl
theorem i140_30 {xs : List Int32} : xtI (xTa xs) 140 30 = some (.bipush 40, 2) := x_ins (j := 15) kk140 ia140 rfl
theorem i140_32 {xs : List Int32} : xtI (xTa xs) 140 32 = some (.newarray .int, 2) := x_ins (j := 16) kk140 ia140 rfl
theorem i140_34 {xs : List Int32} : xtI (xTa xs) 140 34 = some (.putfield 20, 3) := x_ins (j := 17) kk140 ia140 rfl
theorem i140_37 {xs : List Int32} : xtI (xTa xs) 140 37 = some (.aload_n 0, 1) := x_ins (j := 18) kk140 ia140 rfl
theorem i140_38 {xs : List Int32} : xtI (xTa xs) 140 38 = some (.bipush 40, 2) := x_ins (j := 19) kk140 ia140 rfl
theorem i140_40 {xs : List Int32} : xtI (xTa xs) 140 40 = some (.newarray .boolean, 2) := x_ins (j := 20) kk140 ia140 rfl
theorem i140_42 {xs : List Int32} : xtI (xTa xs) 140 42 = some (.putfield 23, 3) := x_ins (j := 21) kk140 ia140 rfl
theorem i140_45 {xs : List Int32} : xtI (xTa xs) 140 45 = some (.aload_n 0, 1) := x_ins (j := 22) kk140 ia140 rfl
theorem i140_46 {xs : List Int32} : xtI (xTa xs) 140 46 = some (.sipush 400, 3) := x_ins (j := 23) kk140 ia140 rfl
theorem i140_49 {xs : List Int32} : xtI (xTa xs) 140 49 = some (.newarray .int, 2) := x_ins (j := 24) kk140 ia140 rfl
theorem i140_51 {xs : List Int32} : xtI (xTa xs) 140 51 = some (.putfield 26, 3) := x_ins (j := 25) kk140 ia140 rfl
theorem i140_54 {xs : List Int32} : xtI (xTa xs) 140 54 = some (.aload_n 0, 1) := x_ins (j := 26) kk140 ia140 rfl
theorem i140_55 {xs : List Int32} : xtI (xTa xs) 140 55 = some (.bipush 40, 2) := x_ins (j := 27) kk140 ia140 rfl
theorem i140_57 {xs : List Int32} : xtI (xTa xs) 140 57 = some (.newarray .int, 2) := x_ins (j := 28) kk140 ia140 rfl
theorem i140_59 {xs : List Int32} : xtI (xTa xs) 140 59 = some (.putfield 29, 3) := x_ins (j := 29) kk140 ia140 rfl
theorem i140_62 {xs : List Int32} : xtI (xTa xs) 140 62 = some (.aload_n 0, 1) := x_ins (j := 30) kk140 ia140 rfl
theorem i140_63 {xs : List Int32} : xtI (xTa xs) 140 63 = some (.bipush 40, 2) := x_ins (j := 31) kk140 ia140 rfl
theorem i140_65 {xs : List Int32} : xtI (xTa xs) 140 65 = some (.newarray .int, 2) := x_ins (j := 32) kk140 ia140 rfl
theorem i140_67 {xs : List Int32} : xtI (xTa xs) 140 67 = some (.putfield 32, 3) := x_ins (j := 33) kk140 ia140 rfl
theorem i140_70 {xs : List Int32} : xtI (xTa xs) 140 70 = some (.aload_n 0, 1) := x_ins (j := 34) kk140 ia140 rfl
theorem i140_71 {xs : List Int32} : xtI (xTa xs) 140 71 = some (.sipush 1600, 3) := x_ins (j := 35) kk140 ia140 rfl
theorem i140_74 {xs : List Int32} : xtI (xTa xs) 140 74 = some (.newarray .int, 2) := x_ins (j := 36) kk140 ia140 rfl
theorem i140_76 {xs : List Int32} : xtI (xTa xs) 140 76 = some (.putfield 35, 3) := x_ins (j := 37) kk140 ia140 rfl
theorem i140_79 {xs : List Int32} : xtI (xTa xs) 140 79 = some (.aload_n 0, 1) := x_ins (j := 38) kk140 ia140 rfl
theorem i140_80 {xs : List Int32} : xtI (xTa xs) 140 80 = some (.sipush 160, 3) := x_ins (j := 39) kk140 ia140 rfl
theorem i140_83 {xs : List Int32} : xtI (xTa xs) 140 83 = some (.newarray .int, 2) := x_ins (j := 40) kk140 ia140 rfl
theorem i140_85 {xs : List Int32} : xtI (xTa xs) 140 85 = some (.putfield 38, 3) := x_ins (j := 41) kk140 ia140 rfl
theorem i140_88 {xs : List Int32} : xtI (xTa xs) 140 88 = some (.aload_n 0, 1) := x_ins (j := 42) kk140 ia140 rfl
theorem i140_89 {xs : List Int32} : xtI (xTa xs) 140 89 = some (.sipush 24600, 3) := x_ins (j := 43) kk140 ia140 rfl
theorem i140_92 {xs : List Int32} : xtI (xTa xs) 140 92 = some (.newarray .int, 2) := x_ins (j := 44) kk140 ia140 rfl
theorem i140_94 {xs : List Int32} : xtI (xTa xs) 140 94 = some (.putfield 41, 3) := x_ins (j := 45) kk140 ia140 rfl
theorem i140_97 {xs : List Int32} : xtI (xTa xs) 140 97 = some (.aload_n 0, 1) := x_ins (j := 46) kk140 ia140 rfl
theorem i140_98 {xs : List Int32} : xtI (xTa xs) 140 98 = some (.bipush 41, 2) := x_ins (j := 47) kk140 ia140 rfl
theorem i140_100 {xs : List Int32} : xtI (xTa xs) 140 100 = some (.newarray .int, 2) := x_ins (j := 48) kk140 ia140 rfl
theorem i140_102 {xs : List Int32} : xtI (xTa xs) 140 102 = some (.putfield 44, 3) := x_ins (j := 49) kk140 ia140 rfl
theorem i140_105 {xs : List Int32} : xtI (xTa xs) 140 105 = some (.aload_n 0, 1) := x_ins (j := 50) kk140 ia140 rfl
theorem i140_106 {xs : List Int32} : xtI (xTa xs) 140 106 = some (.bipush 41, 2) := x_ins (j := 51) kk140 ia140 rfl
theorem i140_108 {xs : List Int32} : xtI (xTa xs) 140 108 = some (.newarray .int, 2) := x_ins (j := 52) kk140 ia140 rfl
theorem i140_110 {xs : List Int32} : xtI (xTa xs) 140 110 = some (.putfield 47, 3) := x_ins (j := 53) kk140 ia140 rfl
theorem i140_113 {xs : List Int32} : xtI (xTa xs) 140 113 = some (.aload_n 0, 1) := x_ins (j := 54) kk140 ia140 rfl
theorem i140_114 {xs : List Int32} : xtI (xTa xs) 140 114 = some (.bipush 41, 2) := x_ins (j := 55) kk140 ia140 rfl
theorem i140_116 {xs : List Int32} : xtI (xTa xs) 140 116 = some (.newarray .int, 2) := x_ins (j := 56) kk140 ia140 rfl
theorem i140_118 {xs : List Int32} : xtI (xTa xs) 140 118 = some (.putfield 50, 3) := x_ins (j := 57) kk140 ia140 rfl
theorem i140_121 {xs : List Int32} : xtI (xTa xs) 140 121 = some (.aload_n 0, 1) := x_ins (j := 58) kk140 ia140 rfl
theorem i140_122 {xs : List Int32} : xtI (xTa xs) 140 122 = some (.sipush 984, 3) := x_ins (j := 59) kk140 ia140 rfl
theorem i140_125 {xs : List Int32} : xtI (xTa xs) 140 125 = some (.newarray .int, 2) := x_ins (j := 60) kk140 ia140 rfl
theorem i140_127 {xs : List Int32} : xtI (xTa xs) 140 127 = some (.putfield 53, 3) := x_ins (j := 61) kk140 ia140 rfl
theorem i140_130 {xs : List Int32} : xtI (xTa xs) 140 130 = some (.aload_n 0, 1) := x_ins (j := 62) kk140 ia140 rfl
theorem i140_131 {xs : List Int32} : xtI (xTa xs) 140 131 = some (.sipush 984, 3) := x_ins (j := 63) kk140 ia140 rfl
theorem i140_134 {xs : List Int32} : xtI (xTa xs) 140 134 = some (.newarray .int, 2) := x_ins (j := 64) kk140 ia140 rfl
theorem i140_136 {xs : List Int32} : xtI (xTa xs) 140 136 = some (.putfield 56, 3) := x_ins (j := 65) kk140 ia140 rfl
theorem i140_139 {xs : List Int32} : xtI (xTa xs) 140 139 = some (.aload_n 0, 1) := x_ins (j := 66) kk140 ia140 rfl
theorem i140_140 {xs : List Int32} : xtI (xTa xs) 140 140 = some (.sipush 984, 3) := x_ins (j := 67) kk140 ia140 rfl
theorem i140_143 {xs : List Int32} : xtI (xTa xs) 140 143 = some (.newarray .int, 2) := x_ins (j := 68) kk140 ia140 rfl
theorem i140_145 {xs : List Int32} : xtI (xTa xs) 140 145 = some (.putfield 59, 3) := x_ins (j := 69) kk140 ia140 rfl
theorem i140_148 {xs : List Int32} : xtI (xTa xs) 140 148 = some (.aload_n 0, 1) := x_ins (j := 70) kk140 ia140 rfl
theorem i140_149 {xs : List Int32} : xtI (xTa xs) 140 149 = some (.sipush 984, 3) := x_ins (j := 71) kk140 ia140 rfl
theorem i140_152 {xs : List Int32} : xtI (xTa xs) 140 152 = some (.newarray .int, 2) := x_ins (j := 72) kk140 ia140 rfl
theorem i140_154 {xs : List Int32} : xtI (xTa xs) 140 154 = some (.putfield 62, 3) := x_ins (j := 73) kk140 ia140 rfl
theorem i140_157 {xs : List Int32} : xtI (xTa xs) 140 157 = some (.aload_n 0, 1) := x_ins (j := 74) kk140 ia140 rfl
theorem i140_158 {xs : List Int32} : xtI (xTa xs) 140 158 = some (.sipush 984, 3) := x_ins (j := 75) kk140 ia140 rfl
theorem i140_161 {xs : List Int32} : xtI (xTa xs) 140 161 = some (.newarray .int, 2) := x_ins (j := 76) kk140 ia140 rfl
theorem i140_163 {xs : List Int32} : xtI (xTa xs) 140 163 = some (.putfield 65, 3) := x_ins (j := 77) kk140 ia140 rfl
theorem i140_166 {xs : List Int32} : xtI (xTa xs) 140 166 = some (.aload_n 0, 1) := x_ins (j := 78) kk140 ia140 rfl
theorem i140_167 {xs : List Int32} : xtI (xTa xs) 140 167 = some (.sipush 984, 3) := x_ins (j := 79) kk140 ia140 rfl
theorem i140_170 {xs : List Int32} : xtI (xTa xs) 140 170 = some (.newarray .int, 2) := x_ins (j := 80) kk140 ia140 rfl
theorem i140_172 {xs : List Int32} : xtI (xTa xs) 140 172 = some (.putfield 68, 3) := x_ins (j := 81) kk140 ia140 rfl
theorem i140_175 {xs : List Int32} : xtI (xTa xs) 140 175 = some (.aload_n 0, 1) := x_ins (j := 82) kk140 ia140 rfl
theorem i140_176 {xs : List Int32} : xtI (xTa xs) 140 176 = some (.sipush 984, 3) := x_ins (j := 83) kk140 ia140 rfl
theorem i140_179 {xs : List Int32} : xtI (xTa xs) 140 179 = some (.newarray .int, 2) := x_ins (j := 84) kk140 ia140 rfl
theorem i140_181 {xs : List Int32} : xtI (xTa xs) 140 181 = some (.putfield 71, 3) := x_ins (j := 85) kk140 ia140 rfl
theorem i140_184 {xs : List Int32} : xtI (xTa xs) 140 184 = some (.aload_n 0, 1) := x_ins (j := 86) kk140 ia140 rfl
theorem i140_185 {xs : List Int32} : xtI (xTa xs) 140 185 = some (.sipush 984, 3) := x_ins (j := 87) kk140 ia140 rfl
theorem i140_188 {xs : List Int32} : xtI (xTa xs) 140 188 = some (.newarray .boolean, 2) := x_ins (j := 88) kk140 ia140 rfl
theorem i140_190 {xs : List Int32} : xtI (xTa xs) 140 190 = some (.putfield 74, 3) := x_ins (j := 89) kk140 ia140 rfl
theorem i140_193 {xs : List Int32} : xtI (xTa xs) 140 193 = some (.aload_n 0, 1) := x_ins (j := 90) kk140 ia140 rfl
theorem i140_194 {xs : List Int32} : xtI (xTa xs) 140 194 = some (.sipush 4920, 3) := x_ins (j := 91) kk140 ia140 rfl
theorem i140_197 {xs : List Int32} : xtI (xTa xs) 140 197 = some (.newarray .int, 2) := x_ins (j := 92) kk140 ia140 rfl
theorem i140_199 {xs : List Int32} : xtI (xTa xs) 140 199 = some (.putfield 77, 3) := x_ins (j := 93) kk140 ia140 rfl
theorem i140_202 {xs : List Int32} : xtI (xTa xs) 140 202 = some (.aload_n 0, 1) := x_ins (j := 94) kk140 ia140 rfl
theorem i140_203 {xs : List Int32} : xtI (xTa xs) 140 203 = some (.sipush 4920, 3) := x_ins (j := 95) kk140 ia140 rfl
theorem i140_206 {xs : List Int32} : xtI (xTa xs) 140 206 = some (.newarray .int, 2) := x_ins (j := 96) kk140 ia140 rfl
theorem i140_208 {xs : List Int32} : xtI (xTa xs) 140 208 = some (.putfield 80, 3) := x_ins (j := 97) kk140 ia140 rfl
theorem i140_211 {xs : List Int32} : xtI (xTa xs) 140 211 = some (.aload_n 0, 1) := x_ins (j := 98) kk140 ia140 rfl
theorem i140_212 {xs : List Int32} : xtI (xTa xs) 140 212 = some (.sipush 4920, 3) := x_ins (j := 99) kk140 ia140 rfl
theorem i140_215 {xs : List Int32} : xtI (xTa xs) 140 215 = some (.newarray .int, 2) := x_ins (j := 100) kk140 ia140 rfl
theorem i140_217 {xs : List Int32} : xtI (xTa xs) 140 217 = some (.putfield 83, 3) := x_ins (j := 101) kk140 ia140 rfl
theorem i140_220 {xs : List Int32} : xtI (xTa xs) 140 220 = some (.aload_n 0, 1) := x_ins (j := 102) kk140 ia140 rfl
theorem i140_221 {xs : List Int32} : xtI (xTa xs) 140 221 = some (.sipush 4920, 3) := x_ins (j := 103) kk140 ia140 rfl
theorem i140_224 {xs : List Int32} : xtI (xTa xs) 140 224 = some (.newarray .int, 2) := x_ins (j := 104) kk140 ia140 rfl
theorem i140_226 {xs : List Int32} : xtI (xTa xs) 140 226 = some (.putfield 86, 3) := x_ins (j := 105) kk140 ia140 rfl
theorem i140_229 {xs : List Int32} : xtI (xTa xs) 140 229 = some (.aload_n 0, 1) := x_ins (j := 106) kk140 ia140 rfl
theorem i140_230 {xs : List Int32} : xtI (xTa xs) 140 230 = some (.sipush 4920, 3) := x_ins (j := 107) kk140 ia140 rfl
theorem i140_233 {xs : List Int32} : xtI (xTa xs) 140 233 = some (.newarray .boolean, 2) := x_ins (j := 108) kk140 ia140 rfl
theorem i140_235 {xs : List Int32} : xtI (xTa xs) 140 235 = some (.putfield 89, 3) := x_ins (j := 109) kk140 ia140 rfl
theorem i140_238 {xs : List Int32} : xtI (xTa xs) 140 238 = some (.aload_n 0, 1) := x_ins (j := 110) kk140 ia140 rfl
theorem i140_239 {xs : List Int32} : xtI (xTa xs) 140 239 = some (.sipush 4920, 3) := x_ins (j := 111) kk140 ia140 rfl
theorem i140_242 {xs : List Int32} : xtI (xTa xs) 140 242 = some (.newarray .int, 2) := x_ins (j := 112) kk140 ia140 rfl
theorem i140_244 {xs : List Int32} : xtI (xTa xs) 140 244 = some (.putfield 92, 3) := x_ins (j := 113) kk140 ia140 rfl
theorem i140_247 {xs : List Int32} : xtI (xTa xs) 140 247 = some (.aload_n 0, 1) := x_ins (j := 114) kk140 ia140 rfl
theorem i140_248 {xs : List Int32} : xtI (xTa xs) 140 248 = some (.sipush 4920, 3) := x_ins (j := 115) kk140 ia140 rfl
theorem i140_251 {xs : List Int32} : xtI (xTa xs) 140 251 = some (.newarray .int, 2) := x_ins (j := 116) kk140 ia140 rfl
theorem i140_253 {xs : List Int32} : xtI (xTa xs) 140 253 = some (.putfield 95, 3) := x_ins (j := 117) kk140 ia140 rfl
theorem i140_256 {xs : List Int32} : xtI (xTa xs) 140 256 = some (.aload_n 0, 1) := x_ins (j := 118) kk140 ia140 rfl
theorem i140_257 {xs : List Int32} : xtI (xTa xs) 140 257 = some (.sipush 4000, 3) := x_ins (j := 119) kk140 ia140 rfl
theorem i140_260 {xs : List Int32} : xtI (xTa xs) 140 260 = some (.newarray .int, 2) := x_ins (j := 120) kk140 ia140 rfl
theorem i140_262 {xs : List Int32} : xtI (xTa xs) 140 262 = some (.putfield 98, 3) := x_ins (j := 121) kk140 ia140 rfl
theorem i140_265 {xs : List Int32} : xtI (xTa xs) 140 265 = some (.aload_n 0, 1) := x_ins (j := 122) kk140 ia140 rfl
theorem i140_266 {xs : List Int32} : xtI (xTa xs) 140 266 = some (.sipush 4001, 3) := x_ins (j := 123) kk140 ia140 rfl
theorem i140_269 {xs : List Int32} : xtI (xTa xs) 140 269 = some (.newarray .int, 2) := x_ins (j := 124) kk140 ia140 rfl
theorem i140_271 {xs : List Int32} : xtI (xTa xs) 140 271 = some (.putfield 101, 3) := x_ins (j := 125) kk140 ia140 rfl
theorem i140_274 {xs : List Int32} : xtI (xTa xs) 140 274 = some (.aload_n 0, 1) := x_ins (j := 126) kk140 ia140 rfl
theorem i140_275 {xs : List Int32} : xtI (xTa xs) 140 275 = some (.bipush 40, 2) := x_ins (j := 127) kk140 ia140 rfl
theorem i140_277 {xs : List Int32} : xtI (xTa xs) 140 277 = some (.newarray .int, 2) := x_ins (j := 128) kk140 ia140 rfl
theorem i140_279 {xs : List Int32} : xtI (xTa xs) 140 279 = some (.putfield 104, 3) := x_ins (j := 129) kk140 ia140 rfl
theorem i140_282 {xs : List Int32} : xtI (xTa xs) 140 282 = some (.aload_n 0, 1) := x_ins (j := 130) kk140 ia140 rfl
theorem i140_283 {xs : List Int32} : xtI (xTa xs) 140 283 = some (.sipush 4000, 3) := x_ins (j := 131) kk140 ia140 rfl
theorem i140_286 {xs : List Int32} : xtI (xTa xs) 140 286 = some (.newarray .int, 2) := x_ins (j := 132) kk140 ia140 rfl
theorem i140_288 {xs : List Int32} : xtI (xTa xs) 140 288 = some (.putfield 107, 3) := x_ins (j := 133) kk140 ia140 rfl
theorem i140_291 {xs : List Int32} : xtI (xTa xs) 140 291 = some (.aload_n 0, 1) := x_ins (j := 134) kk140 ia140 rfl
theorem i140_292 {xs : List Int32} : xtI (xTa xs) 140 292 = some (.sipush 4001, 3) := x_ins (j := 135) kk140 ia140 rfl
theorem i140_295 {xs : List Int32} : xtI (xTa xs) 140 295 = some (.newarray .int, 2) := x_ins (j := 136) kk140 ia140 rfl
theorem i140_297 {xs : List Int32} : xtI (xTa xs) 140 297 = some (.putfield 110, 3) := x_ins (j := 137) kk140 ia140 rfl
theorem i140_300 {xs : List Int32} : xtI (xTa xs) 140 300 = some (.aload_n 0, 1) := x_ins (j := 138) kk140 ia140 rfl
theorem i140_301 {xs : List Int32} : xtI (xTa xs) 140 301 = some (.bipush 40, 2) := x_ins (j := 139) kk140 ia140 rfl
theorem i140_303 {xs : List Int32} : xtI (xTa xs) 140 303 = some (.newarray .int, 2) := x_ins (j := 140) kk140 ia140 rfl
theorem i140_305 {xs : List Int32} : xtI (xTa xs) 140 305 = some (.putfield 113, 3) := x_ins (j := 141) kk140 ia140 rfl
theorem i140_308 {xs : List Int32} : xtI (xTa xs) 140 308 = some (.aload_n 0, 1) := x_ins (j := 142) kk140 ia140 rfl
theorem i140_309 {xs : List Int32} : xtI (xTa xs) 140 309 = some (.sipush 3000, 3) := x_ins (j := 143) kk140 ia140 rfl
theorem i140_312 {xs : List Int32} : xtI (xTa xs) 140 312 = some (.newarray .int, 2) := x_ins (j := 144) kk140 ia140 rfl
theorem i140_314 {xs : List Int32} : xtI (xTa xs) 140 314 = some (.putfield 116, 3) := x_ins (j := 145) kk140 ia140 rfl
theorem i140_317 {xs : List Int32} : xtI (xTa xs) 140 317 = some (.aload_n 0, 1) := x_ins (j := 146) kk140 ia140 rfl
theorem i140_318 {xs : List Int32} : xtI (xTa xs) 140 318 = some (.sipush 130, 3) := x_ins (j := 147) kk140 ia140 rfl
theorem i140_321 {xs : List Int32} : xtI (xTa xs) 140 321 = some (.newarray .int, 2) := x_ins (j := 148) kk140 ia140 rfl
theorem i140_323 {xs : List Int32} : xtI (xTa xs) 140 323 = some (.putfield 119, 3) := x_ins (j := 149) kk140 ia140 rfl
theorem i140_326 {xs : List Int32} : xtI (xTa xs) 140 326 = some (.aload_n 0, 1) := x_ins (j := 150) kk140 ia140 rfl
theorem i140_327 {xs : List Int32} : xtI (xTa xs) 140 327 = some (.sipush 130, 3) := x_ins (j := 151) kk140 ia140 rfl
theorem i140_330 {xs : List Int32} : xtI (xTa xs) 140 330 = some (.newarray .int, 2) := x_ins (j := 152) kk140 ia140 rfl
theorem i140_332 {xs : List Int32} : xtI (xTa xs) 140 332 = some (.putfield 122, 3) := x_ins (j := 153) kk140 ia140 rfl
theorem i140_335 {xs : List Int32} : xtI (xTa xs) 140 335 = some (.aload_n 0, 1) := x_ins (j := 154) kk140 ia140 rfl
theorem i140_336 {xs : List Int32} : xtI (xTa xs) 140 336 = some (.sipush 131, 3) := x_ins (j := 155) kk140 ia140 rfl
theorem i140_339 {xs : List Int32} : xtI (xTa xs) 140 339 = some (.newarray .int, 2) := x_ins (j := 156) kk140 ia140 rfl
theorem i140_341 {xs : List Int32} : xtI (xTa xs) 140 341 = some (.putfield 125, 3) := x_ins (j := 157) kk140 ia140 rfl
theorem i140_344 {xs : List Int32} : xtI (xTa xs) 140 344 = some (.aload_n 0, 1) := x_ins (j := 158) kk140 ia140 rfl
theorem i140_345 {xs : List Int32} : xtI (xTa xs) 140 345 = some (.sipush 1000, 3) := x_ins (j := 159) kk140 ia140 rfl
theorem i140_348 {xs : List Int32} : xtI (xTa xs) 140 348 = some (.newarray .int, 2) := x_ins (j := 160) kk140 ia140 rfl
theorem i140_350 {xs : List Int32} : xtI (xTa xs) 140 350 = some (.putfield 128, 3) := x_ins (j := 161) kk140 ia140 rfl
theorem i140_353 {xs : List Int32} : xtI (xTa xs) 140 353 = some (.aload_n 0, 1) := x_ins (j := 162) kk140 ia140 rfl
theorem i140_354 {xs : List Int32} : xtI (xTa xs) 140 354 = some (.sipush 1000, 3) := x_ins (j := 163) kk140 ia140 rfl
theorem i140_357 {xs : List Int32} : xtI (xTa xs) 140 357 = some (.newarray .int, 2) := x_ins (j := 164) kk140 ia140 rfl
theorem i140_359 {xs : List Int32} : xtI (xTa xs) 140 359 = some (.putfield 131, 3) := x_ins (j := 165) kk140 ia140 rfl
theorem i140_362 {xs : List Int32} : xtI (xTa xs) 140 362 = some (.aload_n 0, 1) := x_ins (j := 166) kk140 ia140 rfl
theorem i140_363 {xs : List Int32} : xtI (xTa xs) 140 363 = some (.bipush 42, 2) := x_ins (j := 167) kk140 ia140 rfl
theorem i140_365 {xs : List Int32} : xtI (xTa xs) 140 365 = some (.newarray .int, 2) := x_ins (j := 168) kk140 ia140 rfl
theorem i140_367 {xs : List Int32} : xtI (xTa xs) 140 367 = some (.putfield 134, 3) := x_ins (j := 169) kk140 ia140 rfl
theorem i140_370 {xs : List Int32} : xtI (xTa xs) 140 370 = some (.aload_n 0, 1) := x_ins (j := 170) kk140 ia140 rfl
theorem i140_371 {xs : List Int32} : xtI (xTa xs) 140 371 = some (.bipush 42, 2) := x_ins (j := 171) kk140 ia140 rfl
theorem i140_373 {xs : List Int32} : xtI (xTa xs) 140 373 = some (.newarray .int, 2) := x_ins (j := 172) kk140 ia140 rfl
theorem i140_375 {xs : List Int32} : xtI (xTa xs) 140 375 = some (.putfield 137, 3) := x_ins (j := 173) kk140 ia140 rfl
theorem i140_378 {xs : List Int32} : xtI (xTa xs) 140 378 = some (.aload_n 0, 1) := x_ins (j := 174) kk140 ia140 rfl
theorem i140_379 {xs : List Int32} : xtI (xTa xs) 140 379 = some (.sipush 200, 3) := x_ins (j := 175) kk140 ia140 rfl
theorem i140_382 {xs : List Int32} : xtI (xTa xs) 140 382 = some (.newarray .int, 2) := x_ins (j := 176) kk140 ia140 rfl
theorem i140_384 {xs : List Int32} : xtI (xTa xs) 140 384 = some (.putfield 140, 3) := x_ins (j := 177) kk140 ia140 rfl
theorem i140_387 {xs : List Int32} : xtI (xTa xs) 140 387 = some (.aload_n 0, 1) := x_ins (j := 178) kk140 ia140 rfl
theorem i140_388 {xs : List Int32} : xtI (xTa xs) 140 388 = some (.sipush 200, 3) := x_ins (j := 179) kk140 ia140 rfl
theorem i140_391 {xs : List Int32} : xtI (xTa xs) 140 391 = some (.newarray .int, 2) := x_ins (j := 180) kk140 ia140 rfl
theorem i140_393 {xs : List Int32} : xtI (xTa xs) 140 393 = some (.putfield 143, 3) := x_ins (j := 181) kk140 ia140 rfl
theorem i140_396 {xs : List Int32} : xtI (xTa xs) 140 396 = some (.return_, 1) := x_ins (j := 182) kk140 ia140 rfl
