theorem kk225 : xK0.getD 225 [] = k225 := rfl
set_option maxRecDepth 100000 in
theorem ia225 : (k225.all fun e => decide (k225.lookup e.1 = some e.2)) = true := by decide +kernel
theorem i225_0 {xs : List Int32} : xtI (xTa xs) 225 0 = some (.iload_n 1, 1) := x_ins (j := 0) kk225 ia225 rfl
theorem i225_1 {xs : List Int32} : xtI (xTa xs) 225 1 = some (.iconst 0, 1) := x_ins (j := 1) kk225 ia225 rfl
theorem i225_2 {xs : List Int32} : xtI (xTa xs) 225 2 = some (.aload_n 0, 1) := x_ins (j := 2) kk225 ia225 rfl
theorem i225_3 {xs : List Int32} : xtI (xTa xs) 225 3 = some (.getfield 455, 3) := x_ins (j := 3) kk225 ia225 rfl
theorem i225_6 {xs : List Int32} : xtI (xTa xs) 225 6 = some (.iconst 1, 1) := x_ins (j := 4) kk225 ia225 rfl
theorem i225_7 {xs : List Int32} : xtI (xTa xs) 225 7 = some (.isub, 1) := x_ins (j := 5) kk225 ia225 rfl
theorem i225_8 {xs : List Int32} : xtI (xTa xs) 225 8 = some (.invokestatic 154, 3) := x_ins (j := 6) kk225 ia225 rfl
theorem i225_11 {xs : List Int32} : xtI (xTa xs) 225 11 = some (.ifCond .eq 34, 3) := x_ins (j := 7) kk225 ia225 rfl
theorem i225_14 {xs : List Int32} : xtI (xTa xs) 225 14 = some (.iload_n 2, 1) := x_ins (j := 8) kk225 ia225 rfl
theorem i225_15 {xs : List Int32} : xtI (xTa xs) 225 15 = some (.iconst 0, 1) := x_ins (j := 9) kk225 ia225 rfl
theorem i225_16 {xs : List Int32} : xtI (xTa xs) 225 16 = some (.iconst 1, 1) := x_ins (j := 10) kk225 ia225 rfl
theorem i225_17 {xs : List Int32} : xtI (xTa xs) 225 17 = some (.invokestatic 154, 3) := x_ins (j := 11) kk225 ia225 rfl
theorem i225_20 {xs : List Int32} : xtI (xTa xs) 225 20 = some (.ifCond .eq 25, 3) := x_ins (j := 12) kk225 ia225 rfl
theorem i225_23 {xs : List Int32} : xtI (xTa xs) 225 23 = some (.iload_n 2, 1) := x_ins (j := 13) kk225 ia225 rfl
theorem i225_24 {xs : List Int32} : xtI (xTa xs) 225 24 = some (.ifCond .ne 12, 3) := x_ins (j := 14) kk225 ia225 rfl
theorem i225_27 {xs : List Int32} : xtI (xTa xs) 225 27 = some (.aload_n 0, 1) := x_ins (j := 15) kk225 ia225 rfl
theorem i225_28 {xs : List Int32} : xtI (xTa xs) 225 28 = some (.getfield 140, 3) := x_ins (j := 16) kk225 ia225 rfl
theorem i225_31 {xs : List Int32} : xtI (xTa xs) 225 31 = some (.iload_n 1, 1) := x_ins (j := 17) kk225 ia225 rfl
theorem i225_32 {xs : List Int32} : xtI (xTa xs) 225 32 = some (.iaload, 1) := x_ins (j := 18) kk225 ia225 rfl
theorem i225_33 {xs : List Int32} : xtI (xTa xs) 225 33 = some (.goto 13, 3) := x_ins (j := 19) kk225 ia225 rfl
theorem i225_36 {xs : List Int32} : xtI (xTa xs) 225 36 = some (.aload_n 0, 1) := x_ins (j := 20) kk225 ia225 rfl
theorem i225_37 {xs : List Int32} : xtI (xTa xs) 225 37 = some (.getfield 143, 3) := x_ins (j := 21) kk225 ia225 rfl
theorem i225_40 {xs : List Int32} : xtI (xTa xs) 225 40 = some (.iload_n 1, 1) := x_ins (j := 22) kk225 ia225 rfl
theorem i225_41 {xs : List Int32} : xtI (xTa xs) 225 41 = some (.iaload, 1) := x_ins (j := 23) kk225 ia225 rfl
theorem i225_42 {xs : List Int32} : xtI (xTa xs) 225 42 = some (.goto 4, 3) := x_ins (j := 24) kk225 ia225 rfl
theorem i225_45 {xs : List Int32} : xtI (xTa xs) 225 45 = some (.iconst (-1), 1) := x_ins (j := 25) kk225 ia225 rfl
theorem i225_46 {xs : List Int32} : xtI (xTa xs) 225 46 = some (.ireturn, 1) := x_ins (j := 26) kk225 ia225 rfl
theorem kk226 : xK0.getD 226 [] = k226 := rfl
set_option maxRecDepth 100000 in
theorem ia226 : (k226.all fun e => decide (k226.lookup e.1 = some e.2)) = true := by decide +kernel
theorem i226_0 {xs : List Int32} : xtI (xTa xs) 226 0 = some (.iconst 0, 1) := x_ins (j := 0) kk226 ia226 rfl
theorem i226_1 {xs : List Int32} : xtI (xTa xs) 226 1 = some (.istore_n 2, 1) := x_ins (j := 1) kk226 ia226 rfl
theorem i226_2 {xs : List Int32} : xtI (xTa xs) 226 2 = some (.iconst 0, 1) := x_ins (j := 2) kk226 ia226 rfl
theorem i226_3 {xs : List Int32} : xtI (xTa xs) 226 3 = some (.istore_n 3, 1) := x_ins (j := 3) kk226 ia226 rfl
theorem i226_4 {xs : List Int32} : xtI (xTa xs) 226 4 = some (.iconst 0, 1) := x_ins (j := 4) kk226 ia226 rfl
theorem i226_5 {xs : List Int32} : xtI (xTa xs) 226 5 = some (.istore 4, 2) := x_ins (j := 5) kk226 ia226 rfl
theorem i226_7 {xs : List Int32} : xtI (xTa xs) 226 7 = some (.iload 4, 2) := x_ins (j := 6) kk226 ia226 rfl
theorem i226_9 {xs : List Int32} : xtI (xTa xs) 226 9 = some (.aload_n 0, 1) := x_ins (j := 7) kk226 ia226 rfl
theorem i226_10 {xs : List Int32} : xtI (xTa xs) 226 10 = some (.getfield 158, 3) := x_ins (j := 8) kk226 ia226 rfl
theorem i226_13 {xs : List Int32} : xtI (xTa xs) 226 13 = some (.if_icmp .ge 46, 3) := x_ins (j := 9) kk226 ia226 rfl
theorem i226_16 {xs : List Int32} : xtI (xTa xs) 226 16 = some (.iload_n 2, 1) := x_ins (j := 10) kk226 ia226 rfl
theorem i226_17 {xs : List Int32} : xtI (xTa xs) 226 17 = some (.aload_n 0, 1) := x_ins (j := 11) kk226 ia226 rfl
theorem i226_18 {xs : List Int32} : xtI (xTa xs) 226 18 = some (.getfield 13, 3) := x_ins (j := 12) kk226 ia226 rfl
theorem i226_21 {xs : List Int32} : xtI (xTa xs) 226 21 = some (.iload 4, 2) := x_ins (j := 13) kk226 ia226 rfl
theorem i226_23 {xs : List Int32} : xtI (xTa xs) 226 23 = some (.baload, 1) := x_ins (j := 14) kk226 ia226 rfl
theorem i226_24 {xs : List Int32} : xtI (xTa xs) 226 24 = some (.ifCond .eq 7, 3) := x_ins (j := 15) kk226 ia226 rfl
theorem i226_27 {xs : List Int32} : xtI (xTa xs) 226 27 = some (.iconst 1, 1) := x_ins (j := 16) kk226 ia226 rfl
theorem i226_28 {xs : List Int32} : xtI (xTa xs) 226 28 = some (.goto 4, 3) := x_ins (j := 17) kk226 ia226 rfl
theorem i226_31 {xs : List Int32} : xtI (xTa xs) 226 31 = some (.iconst 0, 1) := x_ins (j := 18) kk226 ia226 rfl
theorem i226_32 {xs : List Int32} : xtI (xTa xs) 226 32 = some (.iadd, 1) := x_ins (j := 19) kk226 ia226 rfl
theorem i226_33 {xs : List Int32} : xtI (xTa xs) 226 33 = some (.istore_n 2, 1) := x_ins (j := 20) kk226 ia226 rfl
theorem i226_34 {xs : List Int32} : xtI (xTa xs) 226 34 = some (.iload_n 3, 1) := x_ins (j := 21) kk226 ia226 rfl
theorem i226_35 {xs : List Int32} : xtI (xTa xs) 226 35 = some (.aload_n 0, 1) := x_ins (j := 22) kk226 ia226 rfl
theorem i226_36 {xs : List Int32} : xtI (xTa xs) 226 36 = some (.getfield 44, 3) := x_ins (j := 23) kk226 ia226 rfl
theorem i226_39 {xs : List Int32} : xtI (xTa xs) 226 39 = some (.iload 4, 2) := x_ins (j := 24) kk226 ia226 rfl
theorem i226_41 {xs : List Int32} : xtI (xTa xs) 226 41 = some (.iaload, 1) := x_ins (j := 25) kk226 ia226 rfl
theorem i226_42 {xs : List Int32} : xtI (xTa xs) 226 42 = some (.iconst (-1), 1) := x_ins (j := 26) kk226 ia226 rfl
theorem i226_43 {xs : List Int32} : xtI (xTa xs) 226 43 = some (.if_icmp .ne 7, 3) := x_ins (j := 27) kk226 ia226 rfl
theorem i226_46 {xs : List Int32} : xtI (xTa xs) 226 46 = some (.iconst 0, 1) := x_ins (j := 28) kk226 ia226 rfl
theorem i226_47 {xs : List Int32} : xtI (xTa xs) 226 47 = some (.goto 4, 3) := x_ins (j := 29) kk226 ia226 rfl
theorem i226_50 {xs : List Int32} : xtI (xTa xs) 226 50 = some (.iconst 1, 1) := x_ins (j := 30) kk226 ia226 rfl
theorem i226_51 {xs : List Int32} : xtI (xTa xs) 226 51 = some (.iadd, 1) := x_ins (j := 31) kk226 ia226 rfl
theorem i226_52 {xs : List Int32} : xtI (xTa xs) 226 52 = some (.istore_n 3, 1) := x_ins (j := 32) kk226 ia226 rfl
theorem i226_53 {xs : List Int32} : xtI (xTa xs) 226 53 = some (.iinc 4 1, 3) := x_ins (j := 33) kk226 ia226 rfl
theorem i226_56 {xs : List Int32} : xtI (xTa xs) 226 56 = some (.goto (-49), 3) := x_ins (j := 34) kk226 ia226 rfl
theorem i226_59 {xs : List Int32} : xtI (xTa xs) 226 59 = some (.iload_n 1, 1) := x_ins (j := 35) kk226 ia226 rfl
theorem i226_60 {xs : List Int32} : xtI (xTa xs) 226 60 = some (.ifCond .ne 10, 3) := x_ins (j := 36) kk226 ia226 rfl
theorem i226_63 {xs : List Int32} : xtI (xTa xs) 226 63 = some (.aload_n 0, 1) := x_ins (j := 37) kk226 ia226 rfl
theorem i226_64 {xs : List Int32} : xtI (xTa xs) 226 64 = some (.getfield 158, 3) := x_ins (j := 38) kk226 ia226 rfl
theorem i226_67 {xs : List Int32} : xtI (xTa xs) 226 67 = some (.goto 34, 3) := x_ins (j := 39) kk226 ia226 rfl
theorem i226_70 {xs : List Int32} : xtI (xTa xs) 226 70 = some (.iload_n 1, 1) := x_ins (j := 40) kk226 ia226 rfl
theorem i226_71 {xs : List Int32} : xtI (xTa xs) 226 71 = some (.iconst 1, 1) := x_ins (j := 41) kk226 ia226 rfl
theorem i226_72 {xs : List Int32} : xtI (xTa xs) 226 72 = some (.if_icmp .ne 7, 3) := x_ins (j := 42) kk226 ia226 rfl
theorem i226_75 {xs : List Int32} : xtI (xTa xs) 226 75 = some (.iload_n 2, 1) := x_ins (j := 43) kk226 ia226 rfl
theorem i226_76 {xs : List Int32} : xtI (xTa xs) 226 76 = some (.goto 25, 3) := x_ins (j := 44) kk226 ia226 rfl
theorem i226_79 {xs : List Int32} : xtI (xTa xs) 226 79 = some (.iload_n 1, 1) := x_ins (j := 45) kk226 ia226 rfl
theorem i226_80 {xs : List Int32} : xtI (xTa xs) 226 80 = some (.iconst 2, 1) := x_ins (j := 46) kk226 ia226 rfl
theorem i226_81 {xs : List Int32} : xtI (xTa xs) 226 81 = some (.if_icmp .ne 10, 3) := x_ins (j := 47) kk226 ia226 rfl
theorem i226_84 {xs : List Int32} : xtI (xTa xs) 226 84 = some (.aload_n 0, 1) := x_ins (j := 48) kk226 ia226 rfl
theorem i226_85 {xs : List Int32} : xtI (xTa xs) 226 85 = some (.getfield 146, 3) := x_ins (j := 49) kk226 ia226 rfl
theorem i226_88 {xs : List Int32} : xtI (xTa xs) 226 88 = some (.goto 13, 3) := x_ins (j := 50) kk226 ia226 rfl
theorem i226_91 {xs : List Int32} : xtI (xTa xs) 226 91 = some (.iload_n 1, 1) := x_ins (j := 51) kk226 ia226 rfl
theorem i226_92 {xs : List Int32} : xtI (xTa xs) 226 92 = some (.iconst 3, 1) := x_ins (j := 52) kk226 ia226 rfl
theorem i226_93 {xs : List Int32} : xtI (xTa xs) 226 93 = some (.if_icmp .ne 7, 3) := x_ins (j := 53) kk226 ia226 rfl
theorem i226_96 {xs : List Int32} : xtI (xTa xs) 226 96 = some (.iload_n 3, 1) := x_ins (j := 54) kk226 ia226 rfl
theorem i226_97 {xs : List Int32} : xtI (xTa xs) 226 97 = some (.goto 4, 3) := x_ins (j := 55) kk226 ia226 rfl
theorem i226_100 {xs : List Int32} : xtI (xTa xs) 226 100 = some (.iconst (-1), 1) := x_ins (j := 56) kk226 ia226 rfl
theorem i226_101 {xs : List Int32} : xtI (xTa xs) 226 101 = some (.ireturn, 1) := x_ins (j := 57) kk226 ia226 rfl
theorem kk227 : xK0.getD 227 [] = k227 := rfl
set_option maxRecDepth 100000 in
theorem ia227 : (k227.all fun e => decide (k227.lookup e.1 = some e.2)) = true := by decide +kernel
theorem i227_0 {xs : List Int32} : xtI (xTa xs) 227 0 = some (.aload_n 0, 1) := x_ins (j := 0) kk227 ia227 rfl
theorem i227_1 {xs : List Int32} : xtI (xTa xs) 227 1 = some (.getfield 9, 3) := x_ins (j := 1) kk227 ia227 rfl
theorem i227_4 {xs : List Int32} : xtI (xTa xs) 227 4 = some (.arraylength, 1) := x_ins (j := 2) kk227 ia227 rfl
theorem i227_5 {xs : List Int32} : xtI (xTa xs) 227 5 = some (.aload_n 0, 1) := x_ins (j := 3) kk227 ia227 rfl
theorem i227_6 {xs : List Int32} : xtI (xTa xs) 227 6 = some (.invokevirtual 335, 3) := x_ins (j := 4) kk227 ia227 rfl
theorem i227_9 {xs : List Int32} : xtI (xTa xs) 227 9 = some (.ishr, 1) := x_ins (j := 5) kk227 ia227 rfl
theorem i227_10 {xs : List Int32} : xtI (xTa xs) 227 10 = some (.ireturn, 1) := x_ins (j := 6) kk227 ia227 rfl
theorem kk228 : xK0.getD 228 [] = k228 := rfl
set_option maxRecDepth 100000 in
theorem ia228 : (k228.all fun e => decide (k228.lookup e.1 = some e.2)) = true := by decide +kernel
theorem i228_0 {xs : List Int32} : xtI (xTa xs) 228 0 = some (.aload_n 0, 1) := x_ins (j := 0) kk228 ia228 rfl
theorem i228_1 {xs : List Int32} : xtI (xTa xs) 228 1 = some (.invokevirtual 492, 3) := x_ins (j := 1) kk228 ia228 rfl
theorem i228_4 {xs : List Int32} : xtI (xTa xs) 228 4 = some (.ifCond .eq 12, 3) := x_ins (j := 2) kk228 ia228 rfl
theorem i228_7 {xs : List Int32} : xtI (xTa xs) 228 7 = some (.aload_n 0, 1) := x_ins (j := 3) kk228 ia228 rfl
theorem i228_8 {xs : List Int32} : xtI (xTa xs) 228 8 = some (.getfield 9, 3) := x_ins (j := 4) kk228 ia228 rfl
theorem i228_11 {xs : List Int32} : xtI (xTa xs) 228 11 = some (.iload_n 1, 1) := x_ins (j := 5) kk228 ia228 rfl
theorem i228_12 {xs : List Int32} : xtI (xTa xs) 228 12 = some (.invokestatic 495, 3) := x_ins (j := 6) kk228 ia228 rfl
theorem i228_15 {xs : List Int32} : xtI (xTa xs) 228 15 = some (.ireturn, 1) := x_ins (j := 7) kk228 ia228 rfl
theorem i228_16 {xs : List Int32} : xtI (xTa xs) 228 16 = some (.aload_n 0, 1) := x_ins (j := 8) kk228 ia228 rfl
theorem i228_17 {xs : List Int32} : xtI (xTa xs) 228 17 = some (.getfield 9, 3) := x_ins (j := 9) kk228 ia228 rfl
theorem i228_20 {xs : List Int32} : xtI (xTa xs) 228 20 = some (.iload_n 1, 1) := x_ins (j := 10) kk228 ia228 rfl
theorem i228_21 {xs : List Int32} : xtI (xTa xs) 228 21 = some (.invokestatic 498, 3) := x_ins (j := 11) kk228 ia228 rfl
theorem i228_24 {xs : List Int32} : xtI (xTa xs) 228 24 = some (.ireturn, 1) := x_ins (j := 12) kk228 ia228 rfl
theorem kk229 : xK0.getD 229 [] = k229 := rfl
set_option maxRecDepth 100000 in
theorem ia229 : (k229.all fun e => decide (k229.lookup e.1 = some e.2)) = true := by decide +kernel
theorem i229_0 {xs : List Int32} : xtI (xTa xs) 229 0 = some (.getstatic 38, 3) := x_ins (j := 0) kk229 ia229 rfl
theorem i229_3 {xs : List Int32} : xtI (xTa xs) 229 3 = some (.ifCond .eq 10, 3) := x_ins (j := 1) kk229 ia229 rfl
theorem i229_6 {xs : List Int32} : xtI (xTa xs) 229 6 = some (.aload_n 0, 1) := x_ins (j := 2) kk229 ia229 rfl
theorem i229_7 {xs : List Int32} : xtI (xTa xs) 229 7 = some (.getfield 15, 3) := x_ins (j := 3) kk229 ia229 rfl
theorem i229_10 {xs : List Int32} : xtI (xTa xs) 229 10 = some (.goto 4, 3) := x_ins (j := 4) kk229 ia229 rfl
theorem i229_13 {xs : List Int32} : xtI (xTa xs) 229 13 = some (.iconst 1, 1) := x_ins (j := 5) kk229 ia229 rfl
theorem i229_14 {xs : List Int32} : xtI (xTa xs) 229 14 = some (.ireturn, 1) := x_ins (j := 6) kk229 ia229 rfl
theorem kk230 : xK0.getD 230 [] = k230 := rfl
set_option maxRecDepth 100000 in
theorem ia230 : (k230.all fun e => decide (k230.lookup e.1 = some e.2)) = true := by decide +kernel
theorem i230_0 {xs : List Int32} : xtI (xTa xs) 230 0 = some (.getstatic 38, 3) := x_ins (j := 0) kk230 ia230 rfl
theorem i230_3 {xs : List Int32} : xtI (xTa xs) 230 3 = some (.ifCond .eq 14, 3) := x_ins (j := 1) kk230 ia230 rfl
theorem i230_6 {xs : List Int32} : xtI (xTa xs) 230 6 = some (.aload_n 0, 1) := x_ins (j := 2) kk230 ia230 rfl
theorem i230_7 {xs : List Int32} : xtI (xTa xs) 230 7 = some (.getfield 15, 3) := x_ins (j := 3) kk230 ia230 rfl
theorem i230_10 {xs : List Int32} : xtI (xTa xs) 230 10 = some (.ifCond .ne 7, 3) := x_ins (j := 4) kk230 ia230 rfl
theorem i230_13 {xs : List Int32} : xtI (xTa xs) 230 13 = some (.iconst 1, 1) := x_ins (j := 5) kk230 ia230 rfl
theorem i230_14 {xs : List Int32} : xtI (xTa xs) 230 14 = some (.goto 4, 3) := x_ins (j := 6) kk230 ia230 rfl
theorem i230_17 {xs : List Int32} : xtI (xTa xs) 230 17 = some (.iconst 0, 1) := x_ins (j := 7) kk230 ia230 rfl
theorem i230_18 {xs : List Int32} : xtI (xTa xs) 230 18 = some (.ireturn, 1) := x_ins (j := 8) kk230 ia230 rfl
theorem kk231 : xK0.getD 231 [] = k231 := rfl
set_option maxRecDepth 100000 in
theorem ia231 : (k231.all fun e => decide (k231.lookup e.1 = some e.2)) = true := by decide +kernel
theorem i231_0 {xs : List Int32} : xtI (xTa xs) 231 0 = some (.iload_n 0, 1) := x_ins (j := 0) kk231 ia231 rfl
theorem i231_1 {xs : List Int32} : xtI (xTa xs) 231 1 = some (.iload_n 1, 1) := x_ins (j := 1) kk231 ia231 rfl
theorem i231_2 {xs : List Int32} : xtI (xTa xs) 231 2 = some (.getstatic 1053, 3) := x_ins (j := 2) kk231 ia231 rfl
theorem i231_5 {xs : List Int32} : xtI (xTa xs) 231 5 = some (.invokestatic 1059, 3) := x_ins (j := 3) kk231 ia231 rfl
theorem i231_8 {xs : List Int32} : xtI (xTa xs) 231 8 = some (.pop, 1) := x_ins (j := 4) kk231 ia231 rfl
theorem i231_9 {xs : List Int32} : xtI (xTa xs) 231 9 = some (.return_, 1) := x_ins (j := 5) kk231 ia231 rfl
theorem kk232 : xK0.getD 232 [] = k232 := rfl
set_option maxRecDepth 100000 in
theorem ia232 : (k232.all fun e => decide (k232.lookup e.1 = some e.2)) = true := by decide +kernel
theorem i232_0 {xs : List Int32} : xtI (xTa xs) 232 0 = some (.iload_n 1, 1) := x_ins (j := 0) kk232 ia232 rfl
theorem i232_1 {xs : List Int32} : xtI (xTa xs) 232 1 = some (.aload_n 0, 1) := x_ins (j := 1) kk232 ia232 rfl
theorem i232_2 {xs : List Int32} : xtI (xTa xs) 232 2 = some (.arraylength, 1) := x_ins (j := 2) kk232 ia232 rfl
theorem i232_3 {xs : List Int32} : xtI (xTa xs) 232 3 = some (.invokestatic 9, 3) := x_ins (j := 3) kk232 ia232 rfl
theorem i232_6 {xs : List Int32} : xtI (xTa xs) 232 6 = some (.aload_n 0, 1) := x_ins (j := 4) kk232 ia232 rfl
theorem i232_7 {xs : List Int32} : xtI (xTa xs) 232 7 = some (.iload_n 1, 1) := x_ins (j := 5) kk232 ia232 rfl
theorem i232_8 {xs : List Int32} : xtI (xTa xs) 232 8 = some (.baload, 1) := x_ins (j := 6) kk232 ia232 rfl
theorem i232_9 {xs : List Int32} : xtI (xTa xs) 232 9 = some (.sipush 255, 3) := x_ins (j := 7) kk232 ia232 rfl
theorem i232_12 {xs : List Int32} : xtI (xTa xs) 232 12 = some (.iand, 1) := x_ins (j := 8) kk232 ia232 rfl
theorem i232_13 {xs : List Int32} : xtI (xTa xs) 232 13 = some (.i2c, 1) := x_ins (j := 9) kk232 ia232 rfl
theorem i232_14 {xs : List Int32} : xtI (xTa xs) 232 14 = some (.ireturn, 1) := x_ins (j := 10) kk232 ia232 rfl
theorem kk233 : xK0.getD 233 [] = k233 := rfl
set_option maxRecDepth 100000 in
theorem ia233 : (k233.all fun e => decide (k233.lookup e.1 = some e.2)) = true := by decide +kernel
theorem i233_0 {xs : List Int32} : xtI (xTa xs) 233 0 = some (.iload_n 0, 1) := x_ins (j := 0) kk233 ia233 rfl
theorem i233_1 {xs : List Int32} : xtI (xTa xs) 233 1 = some (.ifCond .lt 8, 3) := x_ins (j := 1) kk233 ia233 rfl
theorem i233_4 {xs : List Int32} : xtI (xTa xs) 233 4 = some (.iload_n 0, 1) := x_ins (j := 2) kk233 ia233 rfl
theorem i233_5 {xs : List Int32} : xtI (xTa xs) 233 5 = some (.iload_n 1, 1) := x_ins (j := 3) kk233 ia233 rfl
theorem i233_6 {xs : List Int32} : xtI (xTa xs) 233 6 = some (.if_icmp .lt 10, 3) := x_ins (j := 4) kk233 ia233 rfl
theorem i233_9 {xs : List Int32} : xtI (xTa xs) 233 9 = some (.aload_n 2, 1) := x_ins (j := 5) kk233 ia233 rfl
theorem i233_10 {xs : List Int32} : xtI (xTa xs) 233 10 = some (.iload_n 0, 1) := x_ins (j := 6) kk233 ia233 rfl
theorem i233_11 {xs : List Int32} : xtI (xTa xs) 233 11 = some (.iload_n 1, 1) := x_ins (j := 7) kk233 ia233 rfl
theorem i233_12 {xs : List Int32} : xtI (xTa xs) 233 12 = some (.invokestatic 95, 3) := x_ins (j := 8) kk233 ia233 rfl
theorem i233_16 {xs : List Int32} : xtI (xTa xs) 233 16 = some (.iload_n 0, 1) := x_ins (j := 10) kk233 ia233 rfl
theorem i233_17 {xs : List Int32} : xtI (xTa xs) 233 17 = some (.ireturn, 1) := x_ins (j := 11) kk233 ia233 rfl
theorem kk234 : xK0.getD 234 [] = k234 := rfl
set_option maxRecDepth 100000 in
theorem ia234 : (k234.all fun e => decide (k234.lookup e.1 = some e.2)) = true := by decide +kernel
theorem i234_0 {xs : List Int32} : xtI (xTa xs) 234 0 = some (.new 7, 3) := x_ins (j := 0) kk234 ia234 rfl
theorem i234_3 {xs : List Int32} : xtI (xTa xs) 234 3 = some (.dup, 1) := x_ins (j := 1) kk234 ia234 rfl
theorem i234_4 {xs : List Int32} : xtI (xTa xs) 234 4 = some (.invokespecial 9, 3) := x_ins (j := 2) kk234 ia234 rfl
theorem i234_7 {xs : List Int32} : xtI (xTa xs) 234 7 = some (.astore_n 1, 1) := x_ins (j := 3) kk234 ia234 rfl
theorem i234_8 {xs : List Int32} : xtI (xTa xs) 234 8 = some (.new 10, 3) := x_ins (j := 4) kk234 ia234 rfl
theorem i234_11 {xs : List Int32} : xtI (xTa xs) 234 11 = some (.dup, 1) := x_ins (j := 5) kk234 ia234 rfl
theorem i234_12 {xs : List Int32} : xtI (xTa xs) 234 12 = some (.invokespecial 12, 3) := x_ins (j := 6) kk234 ia234 rfl
theorem i234_15 {xs : List Int32} : xtI (xTa xs) 234 15 = some (.astore_n 2, 1) := x_ins (j := 7) kk234 ia234 rfl
theorem i234_16 {xs : List Int32} : xtI (xTa xs) 234 16 = some (.iconst 0, 1) := x_ins (j := 8) kk234 ia234 rfl
theorem i234_17 {xs : List Int32} : xtI (xTa xs) 234 17 = some (.istore_n 3, 1) := x_ins (j := 9) kk234 ia234 rfl
theorem i234_18 {xs : List Int32} : xtI (xTa xs) 234 18 = some (.iload_n 3, 1) := x_ins (j := 10) kk234 ia234 rfl
theorem i234_19 {xs : List Int32} : xtI (xTa xs) 234 19 = some (.aload_n 0, 1) := x_ins (j := 11) kk234 ia234 rfl
theorem i234_20 {xs : List Int32} : xtI (xTa xs) 234 20 = some (.arraylength, 1) := x_ins (j := 12) kk234 ia234 rfl
theorem i234_21 {xs : List Int32} : xtI (xTa xs) 234 21 = some (.bipush 6, 2) := x_ins (j := 13) kk234 ia234 rfl
theorem i234_23 {xs : List Int32} : xtI (xTa xs) 234 23 = some (.isub, 1) := x_ins (j := 14) kk234 ia234 rfl
theorem i234_24 {xs : List Int32} : xtI (xTa xs) 234 24 = some (.if_icmp .gt 706, 3) := x_ins (j := 15) kk234 ia234 rfl
theorem i234_27 {xs : List Int32} : xtI (xTa xs) 234 27 = some (.aload_n 0, 1) := x_ins (j := 16) kk234 ia234 rfl
theorem i234_28 {xs : List Int32} : xtI (xTa xs) 234 28 = some (.iload_n 3, 1) := x_ins (j := 17) kk234 ia234 rfl
theorem i234_29 {xs : List Int32} : xtI (xTa xs) 234 29 = some (.iaload, 1) := x_ins (j := 18) kk234 ia234 rfl
theorem i234_30 {xs : List Int32} : xtI (xTa xs) 234 30 = some (.bipush 31, 2) := x_ins (j := 19) kk234 ia234 rfl
theorem i234_32 {xs : List Int32} : xtI (xTa xs) 234 32 = some (.iand, 1) := x_ins (j := 20) kk234 ia234 rfl
theorem i234_33 {xs : List Int32} : xtI (xTa xs) 234 33 = some (.tableswitch 691 0 19 #[95, 158, 181, 204, 253, 276, 299, 312, 335, 368, 411, 454, 477, 520, 543, 566, 589, 612, 635, 668], 95) := x_ins (j := 21) kk234 ia234 rfl
theorem i234_128 {xs : List Int32} : xtI (xTa xs) 234 128 = some (.aload_n 1, 1) := x_ins (j := 22) kk234 ia234 rfl
theorem i234_129 {xs : List Int32} : xtI (xTa xs) 234 129 = some (.aload_n 0, 1) := x_ins (j := 23) kk234 ia234 rfl
theorem i234_130 {xs : List Int32} : xtI (xTa xs) 234 130 = some (.iload_n 3, 1) := x_ins (j := 24) kk234 ia234 rfl
theorem i234_131 {xs : List Int32} : xtI (xTa xs) 234 131 = some (.iconst 1, 1) := x_ins (j := 25) kk234 ia234 rfl
theorem i234_132 {xs : List Int32} : xtI (xTa xs) 234 132 = some (.iadd, 1) := x_ins (j := 26) kk234 ia234 rfl
theorem i234_133 {xs : List Int32} : xtI (xTa xs) 234 133 = some (.iaload, 1) := x_ins (j := 27) kk234 ia234 rfl
theorem i234_134 {xs : List Int32} : xtI (xTa xs) 234 134 = some (.aload_n 0, 1) := x_ins (j := 28) kk234 ia234 rfl
theorem i234_135 {xs : List Int32} : xtI (xTa xs) 234 135 = some (.iload_n 3, 1) := x_ins (j := 29) kk234 ia234 rfl
theorem i234_136 {xs : List Int32} : xtI (xTa xs) 234 136 = some (.iconst 2, 1) := x_ins (j := 30) kk234 ia234 rfl
theorem i234_137 {xs : List Int32} : xtI (xTa xs) 234 137 = some (.iadd, 1) := x_ins (j := 31) kk234 ia234 rfl
theorem i234_138 {xs : List Int32} : xtI (xTa xs) 234 138 = some (.iaload, 1) := x_ins (j := 32) kk234 ia234 rfl
theorem i234_139 {xs : List Int32} : xtI (xTa xs) 234 139 = some (.aload_n 0, 1) := x_ins (j := 33) kk234 ia234 rfl
theorem i234_140 {xs : List Int32} : xtI (xTa xs) 234 140 = some (.iload_n 3, 1) := x_ins (j := 34) kk234 ia234 rfl
theorem i234_141 {xs : List Int32} : xtI (xTa xs) 234 141 = some (.iconst 3, 1) := x_ins (j := 35) kk234 ia234 rfl
theorem i234_142 {xs : List Int32} : xtI (xTa xs) 234 142 = some (.iadd, 1) := x_ins (j := 36) kk234 ia234 rfl
theorem i234_143 {xs : List Int32} : xtI (xTa xs) 234 143 = some (.iaload, 1) := x_ins (j := 37) kk234 ia234 rfl
theorem i234_144 {xs : List Int32} : xtI (xTa xs) 234 144 = some (.aload_n 0, 1) := x_ins (j := 38) kk234 ia234 rfl
theorem i234_145 {xs : List Int32} : xtI (xTa xs) 234 145 = some (.iload_n 3, 1) := x_ins (j := 39) kk234 ia234 rfl
theorem i234_146 {xs : List Int32} : xtI (xTa xs) 234 146 = some (.iconst 4, 1) := x_ins (j := 40) kk234 ia234 rfl
theorem i234_147 {xs : List Int32} : xtI (xTa xs) 234 147 = some (.iadd, 1) := x_ins (j := 41) kk234 ia234 rfl
theorem i234_148 {xs : List Int32} : xtI (xTa xs) 234 148 = some (.iaload, 1) := x_ins (j := 42) kk234 ia234 rfl
theorem i234_149 {xs : List Int32} : xtI (xTa xs) 234 149 = some (.aload_n 0, 1) := x_ins (j := 43) kk234 ia234 rfl
theorem i234_150 {xs : List Int32} : xtI (xTa xs) 234 150 = some (.iload_n 3, 1) := x_ins (j := 44) kk234 ia234 rfl
theorem i234_151 {xs : List Int32} : xtI (xTa xs) 234 151 = some (.iconst 5, 1) := x_ins (j := 45) kk234 ia234 rfl
theorem i234_152 {xs : List Int32} : xtI (xTa xs) 234 152 = some (.iadd, 1) := x_ins (j := 46) kk234 ia234 rfl
theorem i234_153 {xs : List Int32} : xtI (xTa xs) 234 153 = some (.iaload, 1) := x_ins (j := 47) kk234 ia234 rfl
theorem i234_154 {xs : List Int32} : xtI (xTa xs) 234 154 = some (.invokevirtual 13, 3) := x_ins (j := 48) kk234 ia234 rfl
theorem i234_157 {xs : List Int32} : xtI (xTa xs) 234 157 = some (.aload_n 2, 1) := x_ins (j := 49) kk234 ia234 rfl
theorem i234_158 {xs : List Int32} : xtI (xTa xs) 234 158 = some (.aload_n 0, 1) := x_ins (j := 50) kk234 ia234 rfl
theorem i234_159 {xs : List Int32} : xtI (xTa xs) 234 159 = some (.iload_n 3, 1) := x_ins (j := 51) kk234 ia234 rfl
theorem i234_160 {xs : List Int32} : xtI (xTa xs) 234 160 = some (.iconst 1, 1) := x_ins (j := 52) kk234 ia234 rfl
theorem i234_161 {xs : List Int32} : xtI (xTa xs) 234 161 = some (.iadd, 1) := x_ins (j := 53) kk234 ia234 rfl
theorem i234_162 {xs : List Int32} : xtI (xTa xs) 234 162 = some (.iaload, 1) := x_ins (j := 54) kk234 ia234 rfl
theorem i234_163 {xs : List Int32} : xtI (xTa xs) 234 163 = some (.aload_n 0, 1) := x_ins (j := 55) kk234 ia234 rfl
theorem i234_164 {xs : List Int32} : xtI (xTa xs) 234 164 = some (.iload_n 3, 1) := x_ins (j := 56) kk234 ia234 rfl
theorem i234_165 {xs : List Int32} : xtI (xTa xs) 234 165 = some (.iconst 2, 1) := x_ins (j := 57) kk234 ia234 rfl
theorem i234_166 {xs : List Int32} : xtI (xTa xs) 234 166 = some (.iadd, 1) := x_ins (j := 58) kk234 ia234 rfl
theorem i234_167 {xs : List Int32} : xtI (xTa xs) 234 167 = some (.iaload, 1) := x_ins (j := 59) kk234 ia234 rfl
theorem i234_168 {xs : List Int32} : xtI (xTa xs) 234 168 = some (.aload_n 0, 1) := x_ins (j := 60) kk234 ia234 rfl
theorem i234_169 {xs : List Int32} : xtI (xTa xs) 234 169 = some (.iload_n 3, 1) := x_ins (j := 61) kk234 ia234 rfl
theorem i234_170 {xs : List Int32} : xtI (xTa xs) 234 170 = some (.iconst 3, 1) := x_ins (j := 62) kk234 ia234 rfl
theorem i234_171 {xs : List Int32} : xtI (xTa xs) 234 171 = some (.iadd, 1) := x_ins (j := 63) kk234 ia234 rfl
theorem i234_172 {xs : List Int32} : xtI (xTa xs) 234 172 = some (.iaload, 1) := x_ins (j := 64) kk234 ia234 rfl
theorem i234_173 {xs : List Int32} : xtI (xTa xs) 234 173 = some (.aload_n 0, 1) := x_ins (j := 65) kk234 ia234 rfl
theorem i234_174 {xs : List Int32} : xtI (xTa xs) 234 174 = some (.iload_n 3, 1) := x_ins (j := 66) kk234 ia234 rfl
theorem i234_175 {xs : List Int32} : xtI (xTa xs) 234 175 = some (.iconst 4, 1) := x_ins (j := 67) kk234 ia234 rfl
theorem i234_176 {xs : List Int32} : xtI (xTa xs) 234 176 = some (.iadd, 1) := x_ins (j := 68) kk234 ia234 rfl
theorem i234_177 {xs : List Int32} : xtI (xTa xs) 234 177 = some (.iaload, 1) := x_ins (j := 69) kk234 ia234 rfl
theorem i234_178 {xs : List Int32} : xtI (xTa xs) 234 178 = some (.aload_n 0, 1) := x_ins (j := 70) kk234 ia234 rfl
theorem i234_179 {xs : List Int32} : xtI (xTa xs) 234 179 = some (.iload_n 3, 1) := x_ins (j := 71) kk234 ia234 rfl
theorem i234_180 {xs : List Int32} : xtI (xTa xs) 234 180 = some (.iconst 5, 1) := x_ins (j := 72) kk234 ia234 rfl
theorem i234_181 {xs : List Int32} : xtI (xTa xs) 234 181 = some (.iadd, 1) := x_ins (j := 73) kk234 ia234 rfl
theorem i234_182 {xs : List Int32} : xtI (xTa xs) 234 182 = some (.iaload, 1) := x_ins (j := 74) kk234 ia234 rfl
theorem i234_183 {xs : List Int32} : xtI (xTa xs) 234 183 = some (.invokevirtual 17, 3) := x_ins (j := 75) kk234 ia234 rfl
theorem i234_186 {xs : List Int32} : xtI (xTa xs) 234 186 = some (.if_icmp .eq 538, 3) := x_ins (j := 76) kk234 ia234 rfl
theorem i234_189 {xs : List Int32} : xtI (xTa xs) 234 189 = some (.iconst 0, 1) := x_ins (j := 77) kk234 ia234 rfl
theorem i234_190 {xs : List Int32} : xtI (xTa xs) 234 190 = some (.ireturn, 1) := x_ins (j := 78) kk234 ia234 rfl
theorem i234_191 {xs : List Int32} : xtI (xTa xs) 234 191 = some (.aload_n 1, 1) := x_ins (j := 79) kk234 ia234 rfl
theorem i234_192 {xs : List Int32} : xtI (xTa xs) 234 192 = some (.aload_n 0, 1) := x_ins (j := 80) kk234 ia234 rfl
theorem i234_193 {xs : List Int32} : xtI (xTa xs) 234 193 = some (.iload_n 3, 1) := x_ins (j := 81) kk234 ia234 rfl
theorem i234_194 {xs : List Int32} : xtI (xTa xs) 234 194 = some (.iconst 1, 1) := x_ins (j := 82) kk234 ia234 rfl
theorem i234_195 {xs : List Int32} : xtI (xTa xs) 234 195 = some (.iadd, 1) := x_ins (j := 83) kk234 ia234 rfl
theorem i234_196 {xs : List Int32} : xtI (xTa xs) 234 196 = some (.iaload, 1) := x_ins (j := 84) kk234 ia234 rfl
theorem i234_197 {xs : List Int32} : xtI (xTa xs) 234 197 = some (.invokevirtual 18, 3) := x_ins (j := 85) kk234 ia234 rfl
theorem i234_200 {xs : List Int32} : xtI (xTa xs) 234 200 = some (.aload_n 2, 1) := x_ins (j := 86) kk234 ia234 rfl
theorem i234_201 {xs : List Int32} : xtI (xTa xs) 234 201 = some (.aload_n 0, 1) := x_ins (j := 87) kk234 ia234 rfl
theorem i234_202 {xs : List Int32} : xtI (xTa xs) 234 202 = some (.iload_n 3, 1) := x_ins (j := 88) kk234 ia234 rfl
theorem i234_203 {xs : List Int32} : xtI (xTa xs) 234 203 = some (.iconst 1, 1) := x_ins (j := 89) kk234 ia234 rfl
theorem i234_204 {xs : List Int32} : xtI (xTa xs) 234 204 = some (.iadd, 1) := x_ins (j := 90) kk234 ia234 rfl
theorem i234_205 {xs : List Int32} : xtI (xTa xs) 234 205 = some (.iaload, 1) := x_ins (j := 91) kk234 ia234 rfl
theorem i234_206 {xs : List Int32} : xtI (xTa xs) 234 206 = some (.invokevirtual 22, 3) := x_ins (j := 92) kk234 ia234 rfl
theorem i234_209 {xs : List Int32} : xtI (xTa xs) 234 209 = some (.if_icmp .eq 515, 3) := x_ins (j := 93) kk234 ia234 rfl
theorem i234_212 {xs : List Int32} : xtI (xTa xs) 234 212 = some (.iconst 0, 1) := x_ins (j := 94) kk234 ia234 rfl
theorem i234_213 {xs : List Int32} : xtI (xTa xs) 234 213 = some (.ireturn, 1) := x_ins (j := 95) kk234 ia234 rfl
theorem i234_214 {xs : List Int32} : xtI (xTa xs) 234 214 = some (.aload_n 1, 1) := x_ins (j := 96) kk234 ia234 rfl
theorem i234_215 {xs : List Int32} : xtI (xTa xs) 234 215 = some (.aload_n 0, 1) := x_ins (j := 97) kk234 ia234 rfl
theorem i234_216 {xs : List Int32} : xtI (xTa xs) 234 216 = some (.iload_n 3, 1) := x_ins (j := 98) kk234 ia234 rfl
theorem i234_217 {xs : List Int32} : xtI (xTa xs) 234 217 = some (.iconst 1, 1) := x_ins (j := 99) kk234 ia234 rfl
theorem i234_218 {xs : List Int32} : xtI (xTa xs) 234 218 = some (.iadd, 1) := x_ins (j := 100) kk234 ia234 rfl
theorem i234_219 {xs : List Int32} : xtI (xTa xs) 234 219 = some (.iaload, 1) := x_ins (j := 101) kk234 ia234 rfl
theorem i234_220 {xs : List Int32} : xtI (xTa xs) 234 220 = some (.invokevirtual 23, 3) := x_ins (j := 102) kk234 ia234 rfl
theorem i234_223 {xs : List Int32} : xtI (xTa xs) 234 223 = some (.aload_n 2, 1) := x_ins (j := 103) kk234 ia234 rfl
theorem i234_224 {xs : List Int32} : xtI (xTa xs) 234 224 = some (.aload_n 0, 1) := x_ins (j := 104) kk234 ia234 rfl
theorem i234_225 {xs : List Int32} : xtI (xTa xs) 234 225 = some (.iload_n 3, 1) := x_ins (j := 105) kk234 ia234 rfl
theorem i234_226 {xs : List Int32} : xtI (xTa xs) 234 226 = some (.iconst 1, 1) := x_ins (j := 106) kk234 ia234 rfl
theorem i234_227 {xs : List Int32} : xtI (xTa xs) 234 227 = some (.iadd, 1) := x_ins (j := 107) kk234 ia234 rfl
theorem i234_228 {xs : List Int32} : xtI (xTa xs) 234 228 = some (.iaload, 1) := x_ins (j := 108) kk234 ia234 rfl
theorem i234_229 {xs : List Int32} : xtI (xTa xs) 234 229 = some (.invokevirtual 26, 3) := x_ins (j := 109) kk234 ia234 rfl
theorem i234_232 {xs : List Int32} : xtI (xTa xs) 234 232 = some (.if_icmp .eq 492, 3) := x_ins (j := 110) kk234 ia234 rfl
theorem i234_235 {xs : List Int32} : xtI (xTa xs) 234 235 = some (.iconst 0, 1) := x_ins (j := 111) kk234 ia234 rfl
theorem i234_236 {xs : List Int32} : xtI (xTa xs) 234 236 = some (.ireturn, 1) := x_ins (j := 112) kk234 ia234 rfl
theorem i234_237 {xs : List Int32} : xtI (xTa xs) 234 237 = some (.aload_n 1, 1) := x_ins (j := 113) kk234 ia234 rfl
theorem i234_238 {xs : List Int32} : xtI (xTa xs) 234 238 = some (.aload_n 0, 1) := x_ins (j := 114) kk234 ia234 rfl
theorem i234_239 {xs : List Int32} : xtI (xTa xs) 234 239 = some (.iload_n 3, 1) := x_ins (j := 115) kk234 ia234 rfl
theorem i234_240 {xs : List Int32} : xtI (xTa xs) 234 240 = some (.iconst 1, 1) := x_ins (j := 116) kk234 ia234 rfl
theorem i234_241 {xs : List Int32} : xtI (xTa xs) 234 241 = some (.iadd, 1) := x_ins (j := 117) kk234 ia234 rfl
theorem i234_242 {xs : List Int32} : xtI (xTa xs) 234 242 = some (.iaload, 1) := x_ins (j := 118) kk234 ia234 rfl
theorem i234_243 {xs : List Int32} : xtI (xTa xs) 234 243 = some (.aload_n 0, 1) := x_ins (j := 119) kk234 ia234 rfl
theorem i234_244 {xs : List Int32} : xtI (xTa xs) 234 244 = some (.iload_n 3, 1) := x_ins (j := 120) kk234 ia234 rfl
theorem i234_245 {xs : List Int32} : xtI (xTa xs) 234 245 = some (.iconst 2, 1) := x_ins (j := 121) kk234 ia234 rfl
theorem i234_246 {xs : List Int32} : xtI (xTa xs) 234 246 = some (.iadd, 1) := x_ins (j := 122) kk234 ia234 rfl
theorem i234_247 {xs : List Int32} : xtI (xTa xs) 234 247 = some (.iaload, 1) := x_ins (j := 123) kk234 ia234 rfl
theorem i234_248 {xs : List Int32} : xtI (xTa xs) 234 248 = some (.ifCond .eq 7, 3) := x_ins (j := 124) kk234 ia234 rfl
theorem i234_251 {xs : List Int32} : xtI (xTa xs) 234 251 = some (.iconst 1, 1) := x_ins (j := 125) kk234 ia234 rfl
theorem i234_252 {xs : List Int32} : xtI (xTa xs) 234 252 = some (.goto 4, 3) := x_ins (j := 126) kk234 ia234 rfl
theorem i234_255 {xs : List Int32} : xtI (xTa xs) 234 255 = some (.iconst 0, 1) := x_ins (j := 127) kk234 ia234 rfl
theorem i234_256 {xs : List Int32} : xtI (xTa xs) 234 256 = some (.invokevirtual 27, 3) := x_ins (j := 128) kk234 ia234 rfl
theorem i234_259 {xs : List Int32} : xtI (xTa xs) 234 259 = some (.aload_n 2, 1) := x_ins (j := 129) kk234 ia234 rfl
theorem i234_260 {xs : List Int32} : xtI (xTa xs) 234 260 = some (.aload_n 0, 1) := x_ins (j := 130) kk234 ia234 rfl
theorem i234_261 {xs : List Int32} : xtI (xTa xs) 234 261 = some (.iload_n 3, 1) := x_ins (j := 131) kk234 ia234 rfl
theorem i234_262 {xs : List Int32} : xtI (xTa xs) 234 262 = some (.iconst 1, 1) := x_ins (j := 132) kk234 ia234 rfl
theorem i234_263 {xs : List Int32} : xtI (xTa xs) 234 263 = some (.iadd, 1) := x_ins (j := 133) kk234 ia234 rfl
theorem i234_264 {xs : List Int32} : xtI (xTa xs) 234 264 = some (.iaload, 1) := x_ins (j := 134) kk234 ia234 rfl
theorem i234_265 {xs : List Int32} : xtI (xTa xs) 234 265 = some (.aload_n 0, 1) := x_ins (j := 135) kk234 ia234 rfl
theorem i234_266 {xs : List Int32} : xtI (xTa xs) 234 266 = some (.iload_n 3, 1) := x_ins (j := 136) kk234 ia234 rfl
theorem i234_267 {xs : List Int32} : xtI (xTa xs) 234 267 = some (.iconst 2, 1) := x_ins (j := 137) kk234 ia234 rfl
theorem i234_268 {xs : List Int32} : xtI (xTa xs) 234 268 = some (.iadd, 1) := x_ins (j := 138) kk234 ia234 rfl
theorem i234_269 {xs : List Int32} : xtI (xTa xs) 234 269 = some (.iaload, 1) := x_ins (j := 139) kk234 ia234 rfl
theorem i234_270 {xs : List Int32} : xtI (xTa xs) 234 270 = some (.ifCond .eq 7, 3) := x_ins (j := 140) kk234 ia234 rfl
theorem i234_273 {xs : List Int32} : xtI (xTa xs) 234 273 = some (.iconst 1, 1) := x_ins (j := 141) kk234 ia234 rfl
theorem i234_274 {xs : List Int32} : xtI (xTa xs) 234 274 = some (.goto 4, 3) := x_ins (j := 142) kk234 ia234 rfl
theorem i234_277 {xs : List Int32} : xtI (xTa xs) 234 277 = some (.iconst 0, 1) := x_ins (j := 143) kk234 ia234 rfl
theorem i234_278 {xs : List Int32} : xtI (xTa xs) 234 278 = some (.invokevirtual 31, 3) := x_ins (j := 144) kk234 ia234 rfl
theorem i234_281 {xs : List Int32} : xtI (xTa xs) 234 281 = some (.if_icmp .eq 443, 3) := x_ins (j := 145) kk234 ia234 rfl
theorem i234_284 {xs : List Int32} : xtI (xTa xs) 234 284 = some (.iconst 0, 1) := x_ins (j := 146) kk234 ia234 rfl
theorem i234_285 {xs : List Int32} : xtI (xTa xs) 234 285 = some (.ireturn, 1) := x_ins (j := 147) kk234 ia234 rfl
theorem i234_286 {xs : List Int32} : xtI (xTa xs) 234 286 = some (.aload_n 1, 1) := x_ins (j := 148) kk234 ia234 rfl
theorem i234_287 {xs : List Int32} : xtI (xTa xs) 234 287 = some (.aload_n 0, 1) := x_ins (j := 149) kk234 ia234 rfl
theorem i234_288 {xs : List Int32} : xtI (xTa xs) 234 288 = some (.iload_n 3, 1) := x_ins (j := 150) kk234 ia234 rfl
theorem i234_289 {xs : List Int32} : xtI (xTa xs) 234 289 = some (.iconst 1, 1) := x_ins (j := 151) kk234 ia234 rfl
theorem i234_290 {xs : List Int32} : xtI (xTa xs) 234 290 = some (.iadd, 1) := x_ins (j := 152) kk234 ia234 rfl
theorem i234_291 {xs : List Int32} : xtI (xTa xs) 234 291 = some (.iaload, 1) := x_ins (j := 153) kk234 ia234 rfl
theorem i234_292 {xs : List Int32} : xtI (xTa xs) 234 292 = some (.invokevirtual 32, 3) := x_ins (j := 154) kk234 ia234 rfl
theorem i234_295 {xs : List Int32} : xtI (xTa xs) 234 295 = some (.aload_n 2, 1) := x_ins (j := 155) kk234 ia234 rfl
theorem i234_296 {xs : List Int32} : xtI (xTa xs) 234 296 = some (.aload_n 0, 1) := x_ins (j := 156) kk234 ia234 rfl
theorem i234_297 {xs : List Int32} : xtI (xTa xs) 234 297 = some (.iload_n 3, 1) := x_ins (j := 157) kk234 ia234 rfl
theorem i234_298 {xs : List Int32} : xtI (xTa xs) 234 298 = some (.iconst 1, 1) := x_ins (j := 158) kk234 ia234 rfl
theorem i234_299 {xs : List Int32} : xtI (xTa xs) 234 299 = some (.iadd, 1) := x_ins (j := 159) kk234 ia234 rfl
theorem i234_300 {xs : List Int32} : xtI (xTa xs) 234 300 = some (.iaload, 1) := x_ins (j := 160) kk234 ia234 rfl
theorem i234_301 {xs : List Int32} : xtI (xTa xs) 234 301 = some (.invokevirtual 35, 3) := x_ins (j := 161) kk234 ia234 rfl
theorem i234_304 {xs : List Int32} : xtI (xTa xs) 234 304 = some (.if_icmp .eq 420, 3) := x_ins (j := 162) kk234 ia234 rfl
theorem i234_307 {xs : List Int32} : xtI (xTa xs) 234 307 = some (.iconst 0, 1) := x_ins (j := 163) kk234 ia234 rfl
theorem i234_308 {xs : List Int32} : xtI (xTa xs) 234 308 = some (.ireturn, 1) := x_ins (j := 164) kk234 ia234 rfl
theorem i234_309 {xs : List Int32} : xtI (xTa xs) 234 309 = some (.aload_n 1, 1) := x_ins (j := 165) kk234 ia234 rfl
theorem i234_310 {xs : List Int32} : xtI (xTa xs) 234 310 = some (.aload_n 0, 1) := x_ins (j := 166) kk234 ia234 rfl
theorem i234_311 {xs : List Int32} : xtI (xTa xs) 234 311 = some (.iload_n 3, 1) := x_ins (j := 167) kk234 ia234 rfl
theorem i234_312 {xs : List Int32} : xtI (xTa xs) 234 312 = some (.iconst 1, 1) := x_ins (j := 168) kk234 ia234 rfl
theorem i234_313 {xs : List Int32} : xtI (xTa xs) 234 313 = some (.iadd, 1) := x_ins (j := 169) kk234 ia234 rfl
theorem i234_314 {xs : List Int32} : xtI (xTa xs) 234 314 = some (.iaload, 1) := x_ins (j := 170) kk234 ia234 rfl
theorem i234_315 {xs : List Int32} : xtI (xTa xs) 234 315 = some (.invokevirtual 36, 3) := x_ins (j := 171) kk234 ia234 rfl
theorem i234_318 {xs : List Int32} : xtI (xTa xs) 234 318 = some (.aload_n 2, 1) := x_ins (j := 172) kk234 ia234 rfl
theorem i234_319 {xs : List Int32} : xtI (xTa xs) 234 319 = some (.aload_n 0, 1) := x_ins (j := 173) kk234 ia234 rfl
theorem i234_320 {xs : List Int32} : xtI (xTa xs) 234 320 = some (.iload_n 3, 1) := x_ins (j := 174) kk234 ia234 rfl
theorem i234_321 {xs : List Int32} : xtI (xTa xs) 234 321 = some (.iconst 1, 1) := x_ins (j := 175) kk234 ia234 rfl
theorem i234_322 {xs : List Int32} : xtI (xTa xs) 234 322 = some (.iadd, 1) := x_ins (j := 176) kk234 ia234 rfl
theorem i234_323 {xs : List Int32} : xtI (xTa xs) 234 323 = some (.iaload, 1) := x_ins (j := 177) kk234 ia234 rfl
theorem i234_324 {xs : List Int32} : xtI (xTa xs) 234 324 = some (.invokevirtual 39, 3) := x_ins (j := 178) kk234 ia234 rfl
theorem i234_327 {xs : List Int32} : xtI (xTa xs) 234 327 = some (.if_icmp .eq 397, 3) := x_ins (j := 179) kk234 ia234 rfl
theorem i234_330 {xs : List Int32} : xtI (xTa xs) 234 330 = some (.iconst 0, 1) := x_ins (j := 180) kk234 ia234 rfl
theorem i234_331 {xs : List Int32} : xtI (xTa xs) 234 331 = some (.ireturn, 1) := x_ins (j := 181) kk234 ia234 rfl
theorem i234_332 {xs : List Int32} : xtI (xTa xs) 234 332 = some (.aload_n 1, 1) := x_ins (j := 182) kk234 ia234 rfl
theorem i234_333 {xs : List Int32} : xtI (xTa xs) 234 333 = some (.invokevirtual 40, 3) := x_ins (j := 183) kk234 ia234 rfl
theorem i234_336 {xs : List Int32} : xtI (xTa xs) 234 336 = some (.aload_n 2, 1) := x_ins (j := 184) kk234 ia234 rfl
theorem i234_337 {xs : List Int32} : xtI (xTa xs) 234 337 = some (.invokevirtual 44, 3) := x_ins (j := 185) kk234 ia234 rfl
theorem i234_340 {xs : List Int32} : xtI (xTa xs) 234 340 = some (.if_icmp .eq 384, 3) := x_ins (j := 186) kk234 ia234 rfl
theorem i234_343 {xs : List Int32} : xtI (xTa xs) 234 343 = some (.iconst 0, 1) := x_ins (j := 187) kk234 ia234 rfl
theorem i234_344 {xs : List Int32} : xtI (xTa xs) 234 344 = some (.ireturn, 1) := x_ins (j := 188) kk234 ia234 rfl
theorem i234_345 {xs : List Int32} : xtI (xTa xs) 234 345 = some (.aload_n 1, 1) := x_ins (j := 189) kk234 ia234 rfl
theorem i234_346 {xs : List Int32} : xtI (xTa xs) 234 346 = some (.aload_n 0, 1) := x_ins (j := 190) kk234 ia234 rfl
theorem i234_347 {xs : List Int32} : xtI (xTa xs) 234 347 = some (.iload_n 3, 1) := x_ins (j := 191) kk234 ia234 rfl
theorem i234_348 {xs : List Int32} : xtI (xTa xs) 234 348 = some (.iconst 1, 1) := x_ins (j := 192) kk234 ia234 rfl
theorem i234_349 {xs : List Int32} : xtI (xTa xs) 234 349 = some (.iadd, 1) := x_ins (j := 193) kk234 ia234 rfl
theorem i234_350 {xs : List Int32} : xtI (xTa xs) 234 350 = some (.iaload, 1) := x_ins (j := 194) kk234 ia234 rfl
theorem i234_351 {xs : List Int32} : xtI (xTa xs) 234 351 = some (.invokevirtual 45, 3) := x_ins (j := 195) kk234 ia234 rfl
theorem i234_354 {xs : List Int32} : xtI (xTa xs) 234 354 = some (.aload_n 2, 1) := x_ins (j := 196) kk234 ia234 rfl
theorem i234_355 {xs : List Int32} : xtI (xTa xs) 234 355 = some (.aload_n 0, 1) := x_ins (j := 197) kk234 ia234 rfl
theorem i234_356 {xs : List Int32} : xtI (xTa xs) 234 356 = some (.iload_n 3, 1) := x_ins (j := 198) kk234 ia234 rfl
theorem i234_357 {xs : List Int32} : xtI (xTa xs) 234 357 = some (.iconst 1, 1) := x_ins (j := 199) kk234 ia234 rfl
theorem i234_358 {xs : List Int32} : xtI (xTa xs) 234 358 = some (.iadd, 1) := x_ins (j := 200) kk234 ia234 rfl
theorem i234_359 {xs : List Int32} : xtI (xTa xs) 234 359 = some (.iaload, 1) := x_ins (j := 201) kk234 ia234 rfl
theorem i234_360 {xs : List Int32} : xtI (xTa xs) 234 360 = some (.invokevirtual 48, 3) := x_ins (j := 202) kk234 ia234 rfl
theorem i234_363 {xs : List Int32} : xtI (xTa xs) 234 363 = some (.if_icmp .eq 361, 3) := x_ins (j := 203) kk234 ia234 rfl
theorem i234_366 {xs : List Int32} : xtI (xTa xs) 234 366 = some (.iconst 0, 1) := x_ins (j := 204) kk234 ia234 rfl
theorem i234_367 {xs : List Int32} : xtI (xTa xs) 234 367 = some (.ireturn, 1) := x_ins (j := 205) kk234 ia234 rfl
theorem i234_368 {xs : List Int32} : xtI (xTa xs) 234 368 = some (.aload_n 1, 1) := x_ins (j := 206) kk234 ia234 rfl
theorem i234_369 {xs : List Int32} : xtI (xTa xs) 234 369 = some (.aload_n 0, 1) := x_ins (j := 207) kk234 ia234 rfl
theorem i234_370 {xs : List Int32} : xtI (xTa xs) 234 370 = some (.iload_n 3, 1) := x_ins (j := 208) kk234 ia234 rfl
theorem i234_371 {xs : List Int32} : xtI (xTa xs) 234 371 = some (.iconst 1, 1) := x_ins (j := 209) kk234 ia234 rfl
theorem i234_372 {xs : List Int32} : xtI (xTa xs) 234 372 = some (.iadd, 1) := x_ins (j := 210) kk234 ia234 rfl
theorem i234_373 {xs : List Int32} : xtI (xTa xs) 234 373 = some (.iaload, 1) := x_ins (j := 211) kk234 ia234 rfl
theorem i234_374 {xs : List Int32} : xtI (xTa xs) 234 374 = some (.aload_n 0, 1) := x_ins (j := 212) kk234 ia234 rfl
theorem i234_375 {xs : List Int32} : xtI (xTa xs) 234 375 = some (.iload_n 3, 1) := x_ins (j := 213) kk234 ia234 rfl
theorem i234_376 {xs : List Int32} : xtI (xTa xs) 234 376 = some (.iconst 2, 1) := x_ins (j := 214) kk234 ia234 rfl
theorem i234_377 {xs : List Int32} : xtI (xTa xs) 234 377 = some (.iadd, 1) := x_ins (j := 215) kk234 ia234 rfl
theorem i234_378 {xs : List Int32} : xtI (xTa xs) 234 378 = some (.iaload, 1) := x_ins (j := 216) kk234 ia234 rfl
theorem i234_379 {xs : List Int32} : xtI (xTa xs) 234 379 = some (.invokevirtual 49, 3) := x_ins (j := 217) kk234 ia234 rfl
theorem i234_382 {xs : List Int32} : xtI (xTa xs) 234 382 = some (.aload_n 2, 1) := x_ins (j := 218) kk234 ia234 rfl
theorem i234_383 {xs : List Int32} : xtI (xTa xs) 234 383 = some (.aload_n 0, 1) := x_ins (j := 219) kk234 ia234 rfl
theorem i234_384 {xs : List Int32} : xtI (xTa xs) 234 384 = some (.iload_n 3, 1) := x_ins (j := 220) kk234 ia234 rfl
theorem i234_385 {xs : List Int32} : xtI (xTa xs) 234 385 = some (.iconst 1, 1) := x_ins (j := 221) kk234 ia234 rfl
theorem i234_386 {xs : List Int32} : xtI (xTa xs) 234 386 = some (.iadd, 1) := x_ins (j := 222) kk234 ia234 rfl
theorem i234_387 {xs : List Int32} : xtI (xTa xs) 234 387 = some (.iaload, 1) := x_ins (j := 223) kk234 ia234 rfl
theorem i234_388 {xs : List Int32} : xtI (xTa xs) 234 388 = some (.aload_n 0, 1) := x_ins (j := 224) kk234 ia234 rfl
theorem i234_389 {xs : List Int32} : xtI (xTa xs) 234 389 = some (.iload_n 3, 1) := x_ins (j := 225) kk234 ia234 rfl
theorem i234_390 {xs : List Int32} : xtI (xTa xs) 234 390 = some (.iconst 2, 1) := x_ins (j := 226) kk234 ia234 rfl
theorem i234_391 {xs : List Int32} : xtI (xTa xs) 234 391 = some (.iadd, 1) := x_ins (j := 227) kk234 ia234 rfl
theorem i234_392 {xs : List Int32} : xtI (xTa xs) 234 392 = some (.iaload, 1) := x_ins (j := 228) kk234 ia234 rfl
theorem i234_393 {xs : List Int32} : xtI (xTa xs) 234 393 = some (.invokevirtual 53, 3) := x_ins (j := 229) kk234 ia234 rfl
theorem i234_396 {xs : List Int32} : xtI (xTa xs) 234 396 = some (.if_icmp .eq 328, 3) := x_ins (j := 230) kk234 ia234 rfl
theorem i234_399 {xs : List Int32} : xtI (xTa xs) 234 399 = some (.iconst 0, 1) := x_ins (j := 231) kk234 ia234 rfl
theorem i234_400 {xs : List Int32} : xtI (xTa xs) 234 400 = some (.ireturn, 1) := x_ins (j := 232) kk234 ia234 rfl
theorem i234_401 {xs : List Int32} : xtI (xTa xs) 234 401 = some (.aload_n 1, 1) := x_ins (j := 233) kk234 ia234 rfl
theorem i234_402 {xs : List Int32} : xtI (xTa xs) 234 402 = some (.aload_n 0, 1) := x_ins (j := 234) kk234 ia234 rfl
theorem i234_403 {xs : List Int32} : xtI (xTa xs) 234 403 = some (.iload_n 3, 1) := x_ins (j := 235) kk234 ia234 rfl
theorem i234_404 {xs : List Int32} : xtI (xTa xs) 234 404 = some (.iconst 1, 1) := x_ins (j := 236) kk234 ia234 rfl
theorem i234_405 {xs : List Int32} : xtI (xTa xs) 234 405 = some (.iadd, 1) := x_ins (j := 237) kk234 ia234 rfl
theorem i234_406 {xs : List Int32} : xtI (xTa xs) 234 406 = some (.iaload, 1) := x_ins (j := 238) kk234 ia234 rfl
theorem i234_407 {xs : List Int32} : xtI (xTa xs) 234 407 = some (.aload_n 0, 1) := x_ins (j := 239) kk234 ia234 rfl
theorem i234_408 {xs : List Int32} : xtI (xTa xs) 234 408 = some (.iload_n 3, 1) := x_ins (j := 240) kk234 ia234 rfl
theorem i234_409 {xs : List Int32} : xtI (xTa xs) 234 409 = some (.iconst 2, 1) := x_ins (j := 241) kk234 ia234 rfl
theorem i234_410 {xs : List Int32} : xtI (xTa xs) 234 410 = some (.iadd, 1) := x_ins (j := 242) kk234 ia234 rfl
theorem i234_411 {xs : List Int32} : xtI (xTa xs) 234 411 = some (.iaload, 1) := x_ins (j := 243) kk234 ia234 rfl
theorem i234_412 {xs : List Int32} : xtI (xTa xs) 234 412 = some (.aload_n 0, 1) := x_ins (j := 244) kk234 ia234 rfl
theorem i234_413 {xs : List Int32} : xtI (xTa xs) 234 413 = some (.iload_n 3, 1) := x_ins (j := 245) kk234 ia234 rfl
theorem i234_414 {xs : List Int32} : xtI (xTa xs) 234 414 = some (.iconst 3, 1) := x_ins (j := 246) kk234 ia234 rfl
theorem i234_415 {xs : List Int32} : xtI (xTa xs) 234 415 = some (.iadd, 1) := x_ins (j := 247) kk234 ia234 rfl
theorem i234_416 {xs : List Int32} : xtI (xTa xs) 234 416 = some (.iaload, 1) := x_ins (j := 248) kk234 ia234 rfl
theorem i234_417 {xs : List Int32} : xtI (xTa xs) 234 417 = some (.invokevirtual 54, 3) := x_ins (j := 249) kk234 ia234 rfl
theorem i234_420 {xs : List Int32} : xtI (xTa xs) 234 420 = some (.aload_n 2, 1) := x_ins (j := 250) kk234 ia234 rfl
theorem i234_421 {xs : List Int32} : xtI (xTa xs) 234 421 = some (.aload_n 0, 1) := x_ins (j := 251) kk234 ia234 rfl
theorem i234_422 {xs : List Int32} : xtI (xTa xs) 234 422 = some (.iload_n 3, 1) := x_ins (j := 252) kk234 ia234 rfl
theorem i234_423 {xs : List Int32} : xtI (xTa xs) 234 423 = some (.iconst 1, 1) := x_ins (j := 253) kk234 ia234 rfl
theorem i234_424 {xs : List Int32} : xtI (xTa xs) 234 424 = some (.iadd, 1) := x_ins (j := 254) kk234 ia234 rfl
theorem i234_425 {xs : List Int32} : xtI (xTa xs) 234 425 = some (.iaload, 1) := x_ins (j := 255) kk234 ia234 rfl
theorem i234_426 {xs : List Int32} : xtI (xTa xs) 234 426 = some (.aload_n 0, 1) := x_ins (j := 256) kk234 ia234 rfl
theorem i234_427 {xs : List Int32} : xtI (xTa xs) 234 427 = some (.iload_n 3, 1) := x_ins (j := 257) kk234 ia234 rfl
theorem i234_428 {xs : List Int32} : xtI (xTa xs) 234 428 = some (.iconst 2, 1) := x_ins (j := 258) kk234 ia234 rfl
theorem i234_429 {xs : List Int32} : xtI (xTa xs) 234 429 = some (.iadd, 1) := x_ins (j := 259) kk234 ia234 rfl
theorem i234_430 {xs : List Int32} : xtI (xTa xs) 234 430 = some (.iaload, 1) := x_ins (j := 260) kk234 ia234 rfl
theorem i234_431 {xs : List Int32} : xtI (xTa xs) 234 431 = some (.aload_n 0, 1) := x_ins (j := 261) kk234 ia234 rfl
theorem i234_432 {xs : List Int32} : xtI (xTa xs) 234 432 = some (.iload_n 3, 1) := x_ins (j := 262) kk234 ia234 rfl
theorem i234_433 {xs : List Int32} : xtI (xTa xs) 234 433 = some (.iconst 3, 1) := x_ins (j := 263) kk234 ia234 rfl
theorem i234_434 {xs : List Int32} : xtI (xTa xs) 234 434 = some (.iadd, 1) := x_ins (j := 264) kk234 ia234 rfl
theorem i234_435 {xs : List Int32} : xtI (xTa xs) 234 435 = some (.iaload, 1) := x_ins (j := 265) kk234 ia234 rfl
theorem i234_436 {xs : List Int32} : xtI (xTa xs) 234 436 = some (.invokevirtual 58, 3) := x_ins (j := 266) kk234 ia234 rfl
theorem i234_439 {xs : List Int32} : xtI (xTa xs) 234 439 = some (.if_icmp .eq 285, 3) := x_ins (j := 267) kk234 ia234 rfl
theorem i234_442 {xs : List Int32} : xtI (xTa xs) 234 442 = some (.iconst 0, 1) := x_ins (j := 268) kk234 ia234 rfl
theorem i234_443 {xs : List Int32} : xtI (xTa xs) 234 443 = some (.ireturn, 1) := x_ins (j := 269) kk234 ia234 rfl
theorem i234_444 {xs : List Int32} : xtI (xTa xs) 234 444 = some (.aload_n 1, 1) := x_ins (j := 270) kk234 ia234 rfl
theorem i234_445 {xs : List Int32} : xtI (xTa xs) 234 445 = some (.aload_n 0, 1) := x_ins (j := 271) kk234 ia234 rfl
theorem i234_446 {xs : List Int32} : xtI (xTa xs) 234 446 = some (.iload_n 3, 1) := x_ins (j := 272) kk234 ia234 rfl
theorem i234_447 {xs : List Int32} : xtI (xTa xs) 234 447 = some (.iconst 1, 1) := x_ins (j := 273) kk234 ia234 rfl
theorem i234_448 {xs : List Int32} : xtI (xTa xs) 234 448 = some (.iadd, 1) := x_ins (j := 274) kk234 ia234 rfl
theorem i234_449 {xs : List Int32} : xtI (xTa xs) 234 449 = some (.iaload, 1) := x_ins (j := 275) kk234 ia234 rfl
theorem i234_450 {xs : List Int32} : xtI (xTa xs) 234 450 = some (.aload_n 0, 1) := x_ins (j := 276) kk234 ia234 rfl
theorem i234_451 {xs : List Int32} : xtI (xTa xs) 234 451 = some (.iload_n 3, 1) := x_ins (j := 277) kk234 ia234 rfl
theorem i234_452 {xs : List Int32} : xtI (xTa xs) 234 452 = some (.iconst 2, 1) := x_ins (j := 278) kk234 ia234 rfl
theorem i234_453 {xs : List Int32} : xtI (xTa xs) 234 453 = some (.iadd, 1) := x_ins (j := 279) kk234 ia234 rfl
theorem i234_454 {xs : List Int32} : xtI (xTa xs) 234 454 = some (.iaload, 1) := x_ins (j := 280) kk234 ia234 rfl
theorem i234_455 {xs : List Int32} : xtI (xTa xs) 234 455 = some (.aload_n 0, 1) := x_ins (j := 281) kk234 ia234 rfl
theorem i234_456 {xs : List Int32} : xtI (xTa xs) 234 456 = some (.iload_n 3, 1) := x_ins (j := 282) kk234 ia234 rfl
theorem i234_457 {xs : List Int32} : xtI (xTa xs) 234 457 = some (.iconst 3, 1) := x_ins (j := 283) kk234 ia234 rfl
theorem i234_458 {xs : List Int32} : xtI (xTa xs) 234 458 = some (.iadd, 1) := x_ins (j := 284) kk234 ia234 rfl
theorem i234_459 {xs : List Int32} : xtI (xTa xs) 234 459 = some (.iaload, 1) := x_ins (j := 285) kk234 ia234 rfl
theorem i234_460 {xs : List Int32} : xtI (xTa xs) 234 460 = some (.invokevirtual 59, 3) := x_ins (j := 286) kk234 ia234 rfl
theorem i234_463 {xs : List Int32} : xtI (xTa xs) 234 463 = some (.aload_n 2, 1) := x_ins (j := 287) kk234 ia234 rfl
theorem i234_464 {xs : List Int32} : xtI (xTa xs) 234 464 = some (.aload_n 0, 1) := x_ins (j := 288) kk234 ia234 rfl
theorem i234_465 {xs : List Int32} : xtI (xTa xs) 234 465 = some (.iload_n 3, 1) := x_ins (j := 289) kk234 ia234 rfl
theorem i234_466 {xs : List Int32} : xtI (xTa xs) 234 466 = some (.iconst 1, 1) := x_ins (j := 290) kk234 ia234 rfl
theorem i234_467 {xs : List Int32} : xtI (xTa xs) 234 467 = some (.iadd, 1) := x_ins (j := 291) kk234 ia234 rfl
theorem i234_468 {xs : List Int32} : xtI (xTa xs) 234 468 = some (.iaload, 1) := x_ins (j := 292) kk234 ia234 rfl
theorem i234_469 {xs : List Int32} : xtI (xTa xs) 234 469 = some (.aload_n 0, 1) := x_ins (j := 293) kk234 ia234 rfl
theorem i234_470 {xs : List Int32} : xtI (xTa xs) 234 470 = some (.iload_n 3, 1) := x_ins (j := 294) kk234 ia234 rfl
theorem i234_471 {xs : List Int32} : xtI (xTa xs) 234 471 = some (.iconst 2, 1) := x_ins (j := 295) kk234 ia234 rfl
theorem i234_472 {xs : List Int32} : xtI (xTa xs) 234 472 = some (.iadd, 1) := x_ins (j := 296) kk234 ia234 rfl
theorem i234_473 {xs : List Int32} : xtI (xTa xs) 234 473 = some (.iaload, 1) := x_ins (j := 297) kk234 ia234 rfl
theorem i234_474 {xs : List Int32} : xtI (xTa xs) 234 474 = some (.aload_n 0, 1) := x_ins (j := 298) kk234 ia234 rfl
theorem i234_475 {xs : List Int32} : xtI (xTa xs) 234 475 = some (.iload_n 3, 1) := x_ins (j := 299) kk234 ia234 rfl
theorem i234_476 {xs : List Int32} : xtI (xTa xs) 234 476 = some (.iconst 3, 1) := x_ins (j := 300) kk234 ia234 rfl
theorem i234_477 {xs : List Int32} : xtI (xTa xs) 234 477 = some (.iadd, 1) := x_ins (j := 301) kk234 ia234 rfl
theorem i234_478 {xs : List Int32} : xtI (xTa xs) 234 478 = some (.iaload, 1) := x_ins (j := 302) kk234 ia234 rfl
theorem i234_479 {xs : List Int32} : xtI (xTa xs) 234 479 = some (.invokevirtual 62, 3) := x_ins (j := 303) kk234 ia234 rfl
theorem i234_482 {xs : List Int32} : xtI (xTa xs) 234 482 = some (.if_icmp .eq 242, 3) := x_ins (j := 304) kk234 ia234 rfl
theorem i234_485 {xs : List Int32} : xtI (xTa xs) 234 485 = some (.iconst 0, 1) := x_ins (j := 305) kk234 ia234 rfl
theorem i234_486 {xs : List Int32} : xtI (xTa xs) 234 486 = some (.ireturn, 1) := x_ins (j := 306) kk234 ia234 rfl
theorem i234_487 {xs : List Int32} : xtI (xTa xs) 234 487 = some (.aload_n 1, 1) := x_ins (j := 307) kk234 ia234 rfl
theorem i234_488 {xs : List Int32} : xtI (xTa xs) 234 488 = some (.aload_n 0, 1) := x_ins (j := 308) kk234 ia234 rfl
theorem i234_489 {xs : List Int32} : xtI (xTa xs) 234 489 = some (.iload_n 3, 1) := x_ins (j := 309) kk234 ia234 rfl
theorem i234_490 {xs : List Int32} : xtI (xTa xs) 234 490 = some (.iconst 1, 1) := x_ins (j := 310) kk234 ia234 rfl
theorem i234_491 {xs : List Int32} : xtI (xTa xs) 234 491 = some (.iadd, 1) := x_ins (j := 311) kk234 ia234 rfl
theorem i234_492 {xs : List Int32} : xtI (xTa xs) 234 492 = some (.iaload, 1) := x_ins (j := 312) kk234 ia234 rfl
theorem i234_493 {xs : List Int32} : xtI (xTa xs) 234 493 = some (.invokevirtual 63, 3) := x_ins (j := 313) kk234 ia234 rfl
theorem i234_496 {xs : List Int32} : xtI (xTa xs) 234 496 = some (.aload_n 2, 1) := x_ins (j := 314) kk234 ia234 rfl
theorem i234_497 {xs : List Int32} : xtI (xTa xs) 234 497 = some (.aload_n 0, 1) := x_ins (j := 315) kk234 ia234 rfl
theorem i234_498 {xs : List Int32} : xtI (xTa xs) 234 498 = some (.iload_n 3, 1) := x_ins (j := 316) kk234 ia234 rfl
theorem i234_499 {xs : List Int32} : xtI (xTa xs) 234 499 = some (.iconst 1, 1) := x_ins (j := 317) kk234 ia234 rfl
theorem i234_500 {xs : List Int32} : xtI (xTa xs) 234 500 = some (.iadd, 1) := x_ins (j := 318) kk234 ia234 rfl
theorem i234_501 {xs : List Int32} : xtI (xTa xs) 234 501 = some (.iaload, 1) := x_ins (j := 319) kk234 ia234 rfl
theorem i234_502 {xs : List Int32} : xtI (xTa xs) 234 502 = some (.invokevirtual 66, 3) := x_ins (j := 320) kk234 ia234 rfl
theorem i234_505 {xs : List Int32} : xtI (xTa xs) 234 505 = some (.if_icmp .eq 219, 3) := x_ins (j := 321) kk234 ia234 rfl
theorem i234_508 {xs : List Int32} : xtI (xTa xs) 234 508 = some (.iconst 0, 1) := x_ins (j := 322) kk234 ia234 rfl
theorem i234_509 {xs : List Int32} : xtI (xTa xs) 234 509 = some (.ireturn, 1) := x_ins (j := 323) kk234 ia234 rfl
theorem i234_510 {xs : List Int32} : xtI (xTa xs) 234 510 = some (.aload_n 1, 1) := x_ins (j := 324) kk234 ia234 rfl
theorem i234_511 {xs : List Int32} : xtI (xTa xs) 234 511 = some (.aload_n 0, 1) := x_ins (j := 325) kk234 ia234 rfl
theorem i234_512 {xs : List Int32} : xtI (xTa xs) 234 512 = some (.iload_n 3, 1) := x_ins (j := 326) kk234 ia234 rfl
theorem i234_513 {xs : List Int32} : xtI (xTa xs) 234 513 = some (.iconst 1, 1) := x_ins (j := 327) kk234 ia234 rfl
theorem i234_514 {xs : List Int32} : xtI (xTa xs) 234 514 = some (.iadd, 1) := x_ins (j := 328) kk234 ia234 rfl
theorem i234_515 {xs : List Int32} : xtI (xTa xs) 234 515 = some (.iaload, 1) := x_ins (j := 329) kk234 ia234 rfl
theorem i234_516 {xs : List Int32} : xtI (xTa xs) 234 516 = some (.aload_n 0, 1) := x_ins (j := 330) kk234 ia234 rfl
theorem i234_517 {xs : List Int32} : xtI (xTa xs) 234 517 = some (.iload_n 3, 1) := x_ins (j := 331) kk234 ia234 rfl
theorem i234_518 {xs : List Int32} : xtI (xTa xs) 234 518 = some (.iconst 2, 1) := x_ins (j := 332) kk234 ia234 rfl
theorem i234_519 {xs : List Int32} : xtI (xTa xs) 234 519 = some (.iadd, 1) := x_ins (j := 333) kk234 ia234 rfl
theorem i234_520 {xs : List Int32} : xtI (xTa xs) 234 520 = some (.iaload, 1) := x_ins (j := 334) kk234 ia234 rfl
theorem i234_521 {xs : List Int32} : xtI (xTa xs) 234 521 = some (.aload_n 0, 1) := x_ins (j := 335) kk234 ia234 rfl
theorem i234_522 {xs : List Int32} : xtI (xTa xs) 234 522 = some (.iload_n 3, 1) := x_ins (j := 336) kk234 ia234 rfl
theorem i234_523 {xs : List Int32} : xtI (xTa xs) 234 523 = some (.iconst 3, 1) := x_ins (j := 337) kk234 ia234 rfl
theorem i234_524 {xs : List Int32} : xtI (xTa xs) 234 524 = some (.iadd, 1) := x_ins (j := 338) kk234 ia234 rfl
theorem i234_525 {xs : List Int32} : xtI (xTa xs) 234 525 = some (.iaload, 1) := x_ins (j := 339) kk234 ia234 rfl
theorem i234_526 {xs : List Int32} : xtI (xTa xs) 234 526 = some (.invokevirtual 67, 3) := x_ins (j := 340) kk234 ia234 rfl
theorem i234_529 {xs : List Int32} : xtI (xTa xs) 234 529 = some (.aload_n 2, 1) := x_ins (j := 341) kk234 ia234 rfl
theorem i234_530 {xs : List Int32} : xtI (xTa xs) 234 530 = some (.aload_n 0, 1) := x_ins (j := 342) kk234 ia234 rfl
theorem i234_531 {xs : List Int32} : xtI (xTa xs) 234 531 = some (.iload_n 3, 1) := x_ins (j := 343) kk234 ia234 rfl
theorem i234_532 {xs : List Int32} : xtI (xTa xs) 234 532 = some (.iconst 1, 1) := x_ins (j := 344) kk234 ia234 rfl
theorem i234_533 {xs : List Int32} : xtI (xTa xs) 234 533 = some (.iadd, 1) := x_ins (j := 345) kk234 ia234 rfl
theorem i234_534 {xs : List Int32} : xtI (xTa xs) 234 534 = some (.iaload, 1) := x_ins (j := 346) kk234 ia234 rfl
theorem i234_535 {xs : List Int32} : xtI (xTa xs) 234 535 = some (.aload_n 0, 1) := x_ins (j := 347) kk234 ia234 rfl
theorem i234_536 {xs : List Int32} : xtI (xTa xs) 234 536 = some (.iload_n 3, 1) := x_ins (j := 348) kk234 ia234 rfl
theorem i234_537 {xs : List Int32} : xtI (xTa xs) 234 537 = some (.iconst 2, 1) := x_ins (j := 349) kk234 ia234 rfl
theorem i234_538 {xs : List Int32} : xtI (xTa xs) 234 538 = some (.iadd, 1) := x_ins (j := 350) kk234 ia234 rfl
theorem i234_539 {xs : List Int32} : xtI (xTa xs) 234 539 = some (.iaload, 1) := x_ins (j := 351) kk234 ia234 rfl
theorem i234_540 {xs : List Int32} : xtI (xTa xs) 234 540 = some (.aload_n 0, 1) := x_ins (j := 352) kk234 ia234 rfl
theorem i234_541 {xs : List Int32} : xtI (xTa xs) 234 541 = some (.iload_n 3, 1) := x_ins (j := 353) kk234 ia234 rfl
theorem i234_542 {xs : List Int32} : xtI (xTa xs) 234 542 = some (.iconst 3, 1) := x_ins (j := 354) kk234 ia234 rfl
theorem i234_543 {xs : List Int32} : xtI (xTa xs) 234 543 = some (.iadd, 1) := x_ins (j := 355) kk234 ia234 rfl
theorem i234_544 {xs : List Int32} : xtI (xTa xs) 234 544 = some (.iaload, 1) := x_ins (j := 356) kk234 ia234 rfl
theorem i234_545 {xs : List Int32} : xtI (xTa xs) 234 545 = some (.invokevirtual 70, 3) := x_ins (j := 357) kk234 ia234 rfl
theorem i234_548 {xs : List Int32} : xtI (xTa xs) 234 548 = some (.if_icmp .eq 176, 3) := x_ins (j := 358) kk234 ia234 rfl
theorem i234_551 {xs : List Int32} : xtI (xTa xs) 234 551 = some (.iconst 0, 1) := x_ins (j := 359) kk234 ia234 rfl
theorem i234_552 {xs : List Int32} : xtI (xTa xs) 234 552 = some (.ireturn, 1) := x_ins (j := 360) kk234 ia234 rfl
theorem i234_553 {xs : List Int32} : xtI (xTa xs) 234 553 = some (.aload_n 1, 1) := x_ins (j := 361) kk234 ia234 rfl
theorem i234_554 {xs : List Int32} : xtI (xTa xs) 234 554 = some (.aload_n 0, 1) := x_ins (j := 362) kk234 ia234 rfl
theorem i234_555 {xs : List Int32} : xtI (xTa xs) 234 555 = some (.iload_n 3, 1) := x_ins (j := 363) kk234 ia234 rfl
theorem i234_556 {xs : List Int32} : xtI (xTa xs) 234 556 = some (.iconst 1, 1) := x_ins (j := 364) kk234 ia234 rfl
theorem i234_557 {xs : List Int32} : xtI (xTa xs) 234 557 = some (.iadd, 1) := x_ins (j := 365) kk234 ia234 rfl
theorem i234_558 {xs : List Int32} : xtI (xTa xs) 234 558 = some (.iaload, 1) := x_ins (j := 366) kk234 ia234 rfl
theorem i234_559 {xs : List Int32} : xtI (xTa xs) 234 559 = some (.invokevirtual 71, 3) := x_ins (j := 367) kk234 ia234 rfl
theorem i234_562 {xs : List Int32} : xtI (xTa xs) 234 562 = some (.aload_n 2, 1) := x_ins (j := 368) kk234 ia234 rfl
theorem i234_563 {xs : List Int32} : xtI (xTa xs) 234 563 = some (.aload_n 0, 1) := x_ins (j := 369) kk234 ia234 rfl
theorem i234_564 {xs : List Int32} : xtI (xTa xs) 234 564 = some (.iload_n 3, 1) := x_ins (j := 370) kk234 ia234 rfl
theorem i234_565 {xs : List Int32} : xtI (xTa xs) 234 565 = some (.iconst 1, 1) := x_ins (j := 371) kk234 ia234 rfl
theorem i234_566 {xs : List Int32} : xtI (xTa xs) 234 566 = some (.iadd, 1) := x_ins (j := 372) kk234 ia234 rfl
theorem i234_567 {xs : List Int32} : xtI (xTa xs) 234 567 = some (.iaload, 1) := x_ins (j := 373) kk234 ia234 rfl
theorem i234_568 {xs : List Int32} : xtI (xTa xs) 234 568 = some (.invokevirtual 74, 3) := x_ins (j := 374) kk234 ia234 rfl
theorem i234_571 {xs : List Int32} : xtI (xTa xs) 234 571 = some (.if_icmp .eq 153, 3) := x_ins (j := 375) kk234 ia234 rfl
theorem i234_574 {xs : List Int32} : xtI (xTa xs) 234 574 = some (.iconst 0, 1) := x_ins (j := 376) kk234 ia234 rfl
theorem i234_575 {xs : List Int32} : xtI (xTa xs) 234 575 = some (.ireturn, 1) := x_ins (j := 377) kk234 ia234 rfl
theorem i234_576 {xs : List Int32} : xtI (xTa xs) 234 576 = some (.aload_n 1, 1) := x_ins (j := 378) kk234 ia234 rfl
theorem i234_577 {xs : List Int32} : xtI (xTa xs) 234 577 = some (.aload_n 0, 1) := x_ins (j := 379) kk234 ia234 rfl
theorem i234_578 {xs : List Int32} : xtI (xTa xs) 234 578 = some (.iload_n 3, 1) := x_ins (j := 380) kk234 ia234 rfl
theorem i234_579 {xs : List Int32} : xtI (xTa xs) 234 579 = some (.iconst 1, 1) := x_ins (j := 381) kk234 ia234 rfl
theorem i234_580 {xs : List Int32} : xtI (xTa xs) 234 580 = some (.iadd, 1) := x_ins (j := 382) kk234 ia234 rfl
theorem i234_581 {xs : List Int32} : xtI (xTa xs) 234 581 = some (.iaload, 1) := x_ins (j := 383) kk234 ia234 rfl
theorem i234_582 {xs : List Int32} : xtI (xTa xs) 234 582 = some (.invokevirtual 75, 3) := x_ins (j := 384) kk234 ia234 rfl
theorem i234_585 {xs : List Int32} : xtI (xTa xs) 234 585 = some (.aload_n 2, 1) := x_ins (j := 385) kk234 ia234 rfl
theorem i234_586 {xs : List Int32} : xtI (xTa xs) 234 586 = some (.aload_n 0, 1) := x_ins (j := 386) kk234 ia234 rfl
theorem i234_587 {xs : List Int32} : xtI (xTa xs) 234 587 = some (.iload_n 3, 1) := x_ins (j := 387) kk234 ia234 rfl
theorem i234_588 {xs : List Int32} : xtI (xTa xs) 234 588 = some (.iconst 1, 1) := x_ins (j := 388) kk234 ia234 rfl
theorem i234_589 {xs : List Int32} : xtI (xTa xs) 234 589 = some (.iadd, 1) := x_ins (j := 389) kk234 ia234 rfl
theorem i234_590 {xs : List Int32} : xtI (xTa xs) 234 590 = some (.iaload, 1) := x_ins (j := 390) kk234 ia234 rfl
theorem i234_591 {xs : List Int32} : xtI (xTa xs) 234 591 = some (.invokevirtual 78, 3) := x_ins (j := 391) kk234 ia234 rfl
theorem i234_594 {xs : List Int32} : xtI (xTa xs) 234 594 = some (.if_icmp .eq 130, 3) := x_ins (j := 392) kk234 ia234 rfl
theorem i234_597 {xs : List Int32} : xtI (xTa xs) 234 597 = some (.iconst 0, 1) := x_ins (j := 393) kk234 ia234 rfl
theorem i234_598 {xs : List Int32} : xtI (xTa xs) 234 598 = some (.ireturn, 1) := x_ins (j := 394) kk234 ia234 rfl
theorem i234_599 {xs : List Int32} : xtI (xTa xs) 234 599 = some (.aload_n 1, 1) := x_ins (j := 395) kk234 ia234 rfl
theorem i234_600 {xs : List Int32} : xtI (xTa xs) 234 600 = some (.aload_n 0, 1) := x_ins (j := 396) kk234 ia234 rfl
theorem i234_601 {xs : List Int32} : xtI (xTa xs) 234 601 = some (.iload_n 3, 1) := x_ins (j := 397) kk234 ia234 rfl
theorem i234_602 {xs : List Int32} : xtI (xTa xs) 234 602 = some (.iconst 1, 1) := x_ins (j := 398) kk234 ia234 rfl
theorem i234_603 {xs : List Int32} : xtI (xTa xs) 234 603 = some (.iadd, 1) := x_ins (j := 399) kk234 ia234 rfl
theorem i234_604 {xs : List Int32} : xtI (xTa xs) 234 604 = some (.iaload, 1) := x_ins (j := 400) kk234 ia234 rfl
theorem i234_605 {xs : List Int32} : xtI (xTa xs) 234 605 = some (.invokevirtual 79, 3) := x_ins (j := 401) kk234 ia234 rfl
theorem i234_608 {xs : List Int32} : xtI (xTa xs) 234 608 = some (.aload_n 2, 1) := x_ins (j := 402) kk234 ia234 rfl
theorem i234_609 {xs : List Int32} : xtI (xTa xs) 234 609 = some (.aload_n 0, 1) := x_ins (j := 403) kk234 ia234 rfl
theorem i234_610 {xs : List Int32} : xtI (xTa xs) 234 610 = some (.iload_n 3, 1) := x_ins (j := 404) kk234 ia234 rfl
theorem i234_611 {xs : List Int32} : xtI (xTa xs) 234 611 = some (.iconst 1, 1) := x_ins (j := 405) kk234 ia234 rfl
theorem i234_612 {xs : List Int32} : xtI (xTa xs) 234 612 = some (.iadd, 1) := x_ins (j := 406) kk234 ia234 rfl
theorem i234_613 {xs : List Int32} : xtI (xTa xs) 234 613 = some (.iaload, 1) := x_ins (j := 407) kk234 ia234 rfl
theorem i234_614 {xs : List Int32} : xtI (xTa xs) 234 614 = some (.invokevirtual 82, 3) := x_ins (j := 408) kk234 ia234 rfl
theorem i234_617 {xs : List Int32} : xtI (xTa xs) 234 617 = some (.if_icmp .eq 107, 3) := x_ins (j := 409) kk234 ia234 rfl
theorem i234_620 {xs : List Int32} : xtI (xTa xs) 234 620 = some (.iconst 0, 1) := x_ins (j := 410) kk234 ia234 rfl
theorem i234_621 {xs : List Int32} : xtI (xTa xs) 234 621 = some (.ireturn, 1) := x_ins (j := 411) kk234 ia234 rfl
theorem i234_622 {xs : List Int32} : xtI (xTa xs) 234 622 = some (.aload_n 1, 1) := x_ins (j := 412) kk234 ia234 rfl
theorem i234_623 {xs : List Int32} : xtI (xTa xs) 234 623 = some (.aload_n 0, 1) := x_ins (j := 413) kk234 ia234 rfl
theorem i234_624 {xs : List Int32} : xtI (xTa xs) 234 624 = some (.iload_n 3, 1) := x_ins (j := 414) kk234 ia234 rfl
theorem i234_625 {xs : List Int32} : xtI (xTa xs) 234 625 = some (.iconst 1, 1) := x_ins (j := 415) kk234 ia234 rfl
theorem i234_626 {xs : List Int32} : xtI (xTa xs) 234 626 = some (.iadd, 1) := x_ins (j := 416) kk234 ia234 rfl
theorem i234_627 {xs : List Int32} : xtI (xTa xs) 234 627 = some (.iaload, 1) := x_ins (j := 417) kk234 ia234 rfl
theorem i234_628 {xs : List Int32} : xtI (xTa xs) 234 628 = some (.invokevirtual 83, 3) := x_ins (j := 418) kk234 ia234 rfl
theorem i234_631 {xs : List Int32} : xtI (xTa xs) 234 631 = some (.aload_n 2, 1) := x_ins (j := 419) kk234 ia234 rfl
theorem i234_632 {xs : List Int32} : xtI (xTa xs) 234 632 = some (.aload_n 0, 1) := x_ins (j := 420) kk234 ia234 rfl
theorem i234_633 {xs : List Int32} : xtI (xTa xs) 234 633 = some (.iload_n 3, 1) := x_ins (j := 421) kk234 ia234 rfl
theorem i234_634 {xs : List Int32} : xtI (xTa xs) 234 634 = some (.iconst 1, 1) := x_ins (j := 422) kk234 ia234 rfl
theorem i234_635 {xs : List Int32} : xtI (xTa xs) 234 635 = some (.iadd, 1) := x_ins (j := 423) kk234 ia234 rfl
theorem i234_636 {xs : List Int32} : xtI (xTa xs) 234 636 = some (.iaload, 1) := x_ins (j := 424) kk234 ia234 rfl
theorem i234_637 {xs : List Int32} : xtI (xTa xs) 234 637 = some (.invokevirtual 86, 3) := x_ins (j := 425) kk234 ia234 rfl
theorem i234_640 {xs : List Int32} : xtI (xTa xs) 234 640 = some (.if_icmp .eq 84, 3) := x_ins (j := 426) kk234 ia234 rfl
theorem i234_643 {xs : List Int32} : xtI (xTa xs) 234 643 = some (.iconst 0, 1) := x_ins (j := 427) kk234 ia234 rfl
theorem i234_644 {xs : List Int32} : xtI (xTa xs) 234 644 = some (.ireturn, 1) := x_ins (j := 428) kk234 ia234 rfl
theorem i234_645 {xs : List Int32} : xtI (xTa xs) 234 645 = some (.aload_n 1, 1) := x_ins (j := 429) kk234 ia234 rfl
theorem i234_646 {xs : List Int32} : xtI (xTa xs) 234 646 = some (.aload_n 0, 1) := x_ins (j := 430) kk234 ia234 rfl
theorem i234_647 {xs : List Int32} : xtI (xTa xs) 234 647 = some (.iload_n 3, 1) := x_ins (j := 431) kk234 ia234 rfl
theorem i234_648 {xs : List Int32} : xtI (xTa xs) 234 648 = some (.iconst 1, 1) := x_ins (j := 432) kk234 ia234 rfl
theorem i234_649 {xs : List Int32} : xtI (xTa xs) 234 649 = some (.iadd, 1) := x_ins (j := 433) kk234 ia234 rfl
theorem i234_650 {xs : List Int32} : xtI (xTa xs) 234 650 = some (.iaload, 1) := x_ins (j := 434) kk234 ia234 rfl
theorem i234_651 {xs : List Int32} : xtI (xTa xs) 234 651 = some (.invokevirtual 87, 3) := x_ins (j := 435) kk234 ia234 rfl
theorem i234_654 {xs : List Int32} : xtI (xTa xs) 234 654 = some (.aload_n 2, 1) := x_ins (j := 436) kk234 ia234 rfl
theorem i234_655 {xs : List Int32} : xtI (xTa xs) 234 655 = some (.aload_n 0, 1) := x_ins (j := 437) kk234 ia234 rfl
theorem i234_656 {xs : List Int32} : xtI (xTa xs) 234 656 = some (.iload_n 3, 1) := x_ins (j := 438) kk234 ia234 rfl
theorem i234_657 {xs : List Int32} : xtI (xTa xs) 234 657 = some (.iconst 1, 1) := x_ins (j := 439) kk234 ia234 rfl
theorem i234_658 {xs : List Int32} : xtI (xTa xs) 234 658 = some (.iadd, 1) := x_ins (j := 440) kk234 ia234 rfl
theorem i234_659 {xs : List Int32} : xtI (xTa xs) 234 659 = some (.iaload, 1) := x_ins (j := 441) kk234 ia234 rfl
theorem i234_660 {xs : List Int32} : xtI (xTa xs) 234 660 = some (.invokevirtual 90, 3) := x_ins (j := 442) kk234 ia234 rfl
theorem i234_663 {xs : List Int32} : xtI (xTa xs) 234 663 = some (.if_icmp .eq 61, 3) := x_ins (j := 443) kk234 ia234 rfl
theorem i234_666 {xs : List Int32} : xtI (xTa xs) 234 666 = some (.iconst 0, 1) := x_ins (j := 444) kk234 ia234 rfl
theorem i234_667 {xs : List Int32} : xtI (xTa xs) 234 667 = some (.ireturn, 1) := x_ins (j := 445) kk234 ia234 rfl
theorem i234_668 {xs : List Int32} : xtI (xTa xs) 234 668 = some (.aload_n 1, 1) := x_ins (j := 446) kk234 ia234 rfl
theorem i234_669 {xs : List Int32} : xtI (xTa xs) 234 669 = some (.aload_n 0, 1) := x_ins (j := 447) kk234 ia234 rfl
theorem i234_670 {xs : List Int32} : xtI (xTa xs) 234 670 = some (.iload_n 3, 1) := x_ins (j := 448) kk234 ia234 rfl
theorem i234_671 {xs : List Int32} : xtI (xTa xs) 234 671 = some (.iconst 1, 1) := x_ins (j := 449) kk234 ia234 rfl
theorem i234_672 {xs : List Int32} : xtI (xTa xs) 234 672 = some (.iadd, 1) := x_ins (j := 450) kk234 ia234 rfl
theorem i234_673 {xs : List Int32} : xtI (xTa xs) 234 673 = some (.iaload, 1) := x_ins (j := 451) kk234 ia234 rfl
theorem i234_674 {xs : List Int32} : xtI (xTa xs) 234 674 = some (.aload_n 0, 1) := x_ins (j := 452) kk234 ia234 rfl
theorem i234_675 {xs : List Int32} : xtI (xTa xs) 234 675 = some (.iload_n 3, 1) := x_ins (j := 453) kk234 ia234 rfl
theorem i234_676 {xs : List Int32} : xtI (xTa xs) 234 676 = some (.iconst 2, 1) := x_ins (j := 454) kk234 ia234 rfl
theorem i234_677 {xs : List Int32} : xtI (xTa xs) 234 677 = some (.iadd, 1) := x_ins (j := 455) kk234 ia234 rfl
theorem i234_678 {xs : List Int32} : xtI (xTa xs) 234 678 = some (.iaload, 1) := x_ins (j := 456) kk234 ia234 rfl
theorem i234_679 {xs : List Int32} : xtI (xTa xs) 234 679 = some (.invokevirtual 91, 3) := x_ins (j := 457) kk234 ia234 rfl
theorem i234_682 {xs : List Int32} : xtI (xTa xs) 234 682 = some (.aload_n 2, 1) := x_ins (j := 458) kk234 ia234 rfl
theorem i234_683 {xs : List Int32} : xtI (xTa xs) 234 683 = some (.aload_n 0, 1) := x_ins (j := 459) kk234 ia234 rfl
theorem i234_684 {xs : List Int32} : xtI (xTa xs) 234 684 = some (.iload_n 3, 1) := x_ins (j := 460) kk234 ia234 rfl
theorem i234_685 {xs : List Int32} : xtI (xTa xs) 234 685 = some (.iconst 1, 1) := x_ins (j := 461) kk234 ia234 rfl
theorem i234_686 {xs : List Int32} : xtI (xTa xs) 234 686 = some (.iadd, 1) := x_ins (j := 462) kk234 ia234 rfl
theorem i234_687 {xs : List Int32} : xtI (xTa xs) 234 687 = some (.iaload, 1) := x_ins (j := 463) kk234 ia234 rfl
theorem i234_688 {xs : List Int32} : xtI (xTa xs) 234 688 = some (.aload_n 0, 1) := x_ins (j := 464) kk234 ia234 rfl
theorem i234_689 {xs : List Int32} : xtI (xTa xs) 234 689 = some (.iload_n 3, 1) := x_ins (j := 465) kk234 ia234 rfl
theorem i234_690 {xs : List Int32} : xtI (xTa xs) 234 690 = some (.iconst 2, 1) := x_ins (j := 466) kk234 ia234 rfl
theorem i234_691 {xs : List Int32} : xtI (xTa xs) 234 691 = some (.iadd, 1) := x_ins (j := 467) kk234 ia234 rfl
theorem i234_692 {xs : List Int32} : xtI (xTa xs) 234 692 = some (.iaload, 1) := x_ins (j := 468) kk234 ia234 rfl
theorem i234_693 {xs : List Int32} : xtI (xTa xs) 234 693 = some (.invokevirtual 94, 3) := x_ins (j := 469) kk234 ia234 rfl
theorem i234_696 {xs : List Int32} : xtI (xTa xs) 234 696 = some (.if_icmp .eq 28, 3) := x_ins (j := 470) kk234 ia234 rfl
theorem i234_699 {xs : List Int32} : xtI (xTa xs) 234 699 = some (.iconst 0, 1) := x_ins (j := 471) kk234 ia234 rfl
theorem i234_700 {xs : List Int32} : xtI (xTa xs) 234 700 = some (.ireturn, 1) := x_ins (j := 472) kk234 ia234 rfl
theorem i234_701 {xs : List Int32} : xtI (xTa xs) 234 701 = some (.aload_n 1, 1) := x_ins (j := 473) kk234 ia234 rfl
theorem i234_702 {xs : List Int32} : xtI (xTa xs) 234 702 = some (.aload_n 0, 1) := x_ins (j := 474) kk234 ia234 rfl
theorem i234_703 {xs : List Int32} : xtI (xTa xs) 234 703 = some (.iload_n 3, 1) := x_ins (j := 475) kk234 ia234 rfl
theorem i234_704 {xs : List Int32} : xtI (xTa xs) 234 704 = some (.iconst 1, 1) := x_ins (j := 476) kk234 ia234 rfl
theorem i234_705 {xs : List Int32} : xtI (xTa xs) 234 705 = some (.iadd, 1) := x_ins (j := 477) kk234 ia234 rfl
theorem i234_706 {xs : List Int32} : xtI (xTa xs) 234 706 = some (.iaload, 1) := x_ins (j := 478) kk234 ia234 rfl
theorem i234_707 {xs : List Int32} : xtI (xTa xs) 234 707 = some (.invokevirtual 95, 3) := x_ins (j := 479) kk234 ia234 rfl
theorem i234_710 {xs : List Int32} : xtI (xTa xs) 234 710 = some (.aload_n 2, 1) := x_ins (j := 480) kk234 ia234 rfl
theorem i234_711 {xs : List Int32} : xtI (xTa xs) 234 711 = some (.aload_n 0, 1) := x_ins (j := 481) kk234 ia234 rfl
theorem i234_712 {xs : List Int32} : xtI (xTa xs) 234 712 = some (.iload_n 3, 1) := x_ins (j := 482) kk234 ia234 rfl
theorem i234_713 {xs : List Int32} : xtI (xTa xs) 234 713 = some (.iconst 1, 1) := x_ins (j := 483) kk234 ia234 rfl
theorem i234_714 {xs : List Int32} : xtI (xTa xs) 234 714 = some (.iadd, 1) := x_ins (j := 484) kk234 ia234 rfl
theorem i234_715 {xs : List Int32} : xtI (xTa xs) 234 715 = some (.iaload, 1) := x_ins (j := 485) kk234 ia234 rfl
theorem i234_716 {xs : List Int32} : xtI (xTa xs) 234 716 = some (.invokevirtual 98, 3) := x_ins (j := 486) kk234 ia234 rfl
theorem i234_719 {xs : List Int32} : xtI (xTa xs) 234 719 = some (.if_icmp .eq 5, 3) := x_ins (j := 487) kk234 ia234 rfl
theorem i234_722 {xs : List Int32} : xtI (xTa xs) 234 722 = some (.iconst 0, 1) := x_ins (j := 488) kk234 ia234 rfl
theorem i234_723 {xs : List Int32} : xtI (xTa xs) 234 723 = some (.ireturn, 1) := x_ins (j := 489) kk234 ia234 rfl
theorem i234_724 {xs : List Int32} : xtI (xTa xs) 234 724 = some (.iinc 3 6, 3) := x_ins (j := 490) kk234 ia234 rfl
theorem i234_727 {xs : List Int32} : xtI (xTa xs) 234 727 = some (.goto (-709), 3) := x_ins (j := 491) kk234 ia234 rfl
theorem i234_730 {xs : List Int32} : xtI (xTa xs) 234 730 = some (.iconst 1, 1) := x_ins (j := 492) kk234 ia234 rfl
theorem i234_731 {xs : List Int32} : xtI (xTa xs) 234 731 = some (.ireturn, 1) := x_ins (j := 493) kk234 ia234 rfl
theorem f1_9 {xs : List Int32} : xtF (xTa xs) 1 9 = some (0, 1, 0) := (show xlk xF0 1 9 = some (0, 1, 0) by decide +kernel)
theorem f2_9 {xs : List Int32} : xtF (xTa xs) 2 9 = some (0, 1, 0) := (show xlk xF0 2 9 = some (0, 1, 0) by decide +kernel)
theorem f3_14 {xs : List Int32} : xtF (xTa xs) 3 14 = some (1, 0, 1) := (show xlk xF0 3 14 = some (1, 0, 1) by decide +kernel)
theorem f3_22 {xs : List Int32} : xtF (xTa xs) 3 22 = some (1, 1, 1) := (show xlk xF0 3 22 = some (1, 1, 1) by decide +kernel)
theorem f3_29 {xs : List Int32} : xtF (xTa xs) 3 29 = some (1, 2, 1) := (show xlk xF0 3 29 = some (1, 2, 1) by decide +kernel)
theorem f4_14 {xs : List Int32} : xtF (xTa xs) 4 14 = some (1, 0, 3) := (show xlk xF0 4 14 = some (1, 0, 3) by decide +kernel)
theorem f4_38 {xs : List Int32} : xtF (xTa xs) 4 38 = some (1, 5, 0) := (show xlk xF0 4 38 = some (1, 5, 0) by decide +kernel)
theorem f4_42 {xs : List Int32} : xtF (xTa xs) 4 42 = some (1, 3, 0) := (show xlk xF0 4 42 = some (1, 3, 0) by decide +kernel)
theorem f4_46 {xs : List Int32} : xtF (xTa xs) 4 46 = some (1, 4, 0) := (show xlk xF0 4 46 = some (1, 4, 0) by decide +kernel)
theorem f5_22 {xs : List Int32} : xtF (xTa xs) 5 22 = some (1, 1, 3) := (show xlk xF0 5 22 = some (1, 1, 3) by decide +kernel)
theorem f5_42 {xs : List Int32} : xtF (xTa xs) 5 42 = some (1, 3, 0) := (show xlk xF0 5 42 = some (1, 3, 0) by decide +kernel)
theorem f6_29 {xs : List Int32} : xtF (xTa xs) 6 29 = some (1, 2, 3) := (show xlk xF0 6 29 = some (1, 2, 3) by decide +kernel)
theorem f6_46 {xs : List Int32} : xtF (xTa xs) 6 46 = some (1, 4, 0) := (show xlk xF0 6 46 = some (1, 4, 0) by decide +kernel)
theorem f7_22 {xs : List Int32} : xtF (xTa xs) 7 22 = some (1, 1, 3) := (show xlk xF0 7 22 = some (1, 1, 3) by decide +kernel)
theorem f7_42 {xs : List Int32} : xtF (xTa xs) 7 42 = some (1, 3, 0) := (show xlk xF0 7 42 = some (1, 3, 0) by decide +kernel)
theorem f7_46 {xs : List Int32} : xtF (xTa xs) 7 46 = some (1, 4, 0) := (show xlk xF0 7 46 = some (1, 4, 0) by decide +kernel)
theorem f7_49 {xs : List Int32} : xtF (xTa xs) 7 49 = some (0, 0, 2) := (show xlk xF0 7 49 = some (0, 0, 2) by decide +kernel)
theorem f7_53 {xs : List Int32} : xtF (xTa xs) 7 53 = some (0, 1, 2) := (show xlk xF0 7 53 = some (0, 1, 2) by decide +kernel)
theorem f7_56 {xs : List Int32} : xtF (xTa xs) 7 56 = some (0, 2, 2) := (show xlk xF0 7 56 = some (0, 2, 2) by decide +kernel)
theorem f7_59 {xs : List Int32} : xtF (xTa xs) 7 59 = some (0, 3, 2) := (show xlk xF0 7 59 = some (0, 3, 2) by decide +kernel)
theorem f7_62 {xs : List Int32} : xtF (xTa xs) 7 62 = some (0, 4, 2) := (show xlk xF0 7 62 = some (0, 4, 2) by decide +kernel)
theorem f7_65 {xs : List Int32} : xtF (xTa xs) 7 65 = some (0, 5, 2) := (show xlk xF0 7 65 = some (0, 5, 2) by decide +kernel)
theorem f7_66 {xs : List Int32} : xtF (xTa xs) 7 66 = some (0, 6, 2) := (show xlk xF0 7 66 = some (0, 6, 2) by decide +kernel)
theorem f7_69 {xs : List Int32} : xtF (xTa xs) 7 69 = some (0, 7, 2) := (show xlk xF0 7 69 = some (0, 7, 2) by decide +kernel)
theorem f7_72 {xs : List Int32} : xtF (xTa xs) 7 72 = some (0, 8, 2) := (show xlk xF0 7 72 = some (0, 8, 2) by decide +kernel)
theorem f8_29 {xs : List Int32} : xtF (xTa xs) 8 29 = some (1, 2, 3) := (show xlk xF0 8 29 = some (1, 2, 3) by decide +kernel)
theorem f8_46 {xs : List Int32} : xtF (xTa xs) 8 46 = some (1, 4, 0) := (show xlk xF0 8 46 = some (1, 4, 0) by decide +kernel)
theorem f8_76 {xs : List Int32} : xtF (xTa xs) 8 76 = some (6, 0, 2) := (show xlk xF0 8 76 = some (6, 0, 2) by decide +kernel)
theorem f8_77 {xs : List Int32} : xtF (xTa xs) 8 77 = some (6, 1, 2) := (show xlk xF0 8 77 = some (6, 1, 2) by decide +kernel)
theorem f8_78 {xs : List Int32} : xtF (xTa xs) 8 78 = some (6, 2, 2) := (show xlk xF0 8 78 = some (6, 2, 2) by decide +kernel)
theorem f8_81 {xs : List Int32} : xtF (xTa xs) 8 81 = some (6, 3, 2) := (show xlk xF0 8 81 = some (6, 3, 2) by decide +kernel)
theorem f8_84 {xs : List Int32} : xtF (xTa xs) 8 84 = some (6, 4, 2) := (show xlk xF0 8 84 = some (6, 4, 2) by decide +kernel)
theorem f8_85 {xs : List Int32} : xtF (xTa xs) 8 85 = some (6, 5, 2) := (show xlk xF0 8 85 = some (6, 5, 2) by decide +kernel)
theorem f8_86 {xs : List Int32} : xtF (xTa xs) 8 86 = some (6, 6, 2) := (show xlk xF0 8 86 = some (6, 6, 2) by decide +kernel)
theorem f9_22 {xs : List Int32} : xtF (xTa xs) 9 22 = some (1, 1, 3) := (show xlk xF0 9 22 = some (1, 1, 3) by decide +kernel)
theorem f9_42 {xs : List Int32} : xtF (xTa xs) 9 42 = some (1, 3, 0) := (show xlk xF0 9 42 = some (1, 3, 0) by decide +kernel)
theorem f9_53 {xs : List Int32} : xtF (xTa xs) 9 53 = some (0, 1, 2) := (show xlk xF0 9 53 = some (0, 1, 2) by decide +kernel)
theorem f10_14 {xs : List Int32} : xtF (xTa xs) 10 14 = some (1, 0, 3) := (show xlk xF0 10 14 = some (1, 0, 3) by decide +kernel)
theorem f10_22 {xs : List Int32} : xtF (xTa xs) 10 22 = some (1, 1, 3) := (show xlk xF0 10 22 = some (1, 1, 3) by decide +kernel)
theorem f10_42 {xs : List Int32} : xtF (xTa xs) 10 42 = some (1, 3, 0) := (show xlk xF0 10 42 = some (1, 3, 0) by decide +kernel)
theorem f10_53 {xs : List Int32} : xtF (xTa xs) 10 53 = some (0, 1, 2) := (show xlk xF0 10 53 = some (0, 1, 2) by decide +kernel)
theorem f10_66 {xs : List Int32} : xtF (xTa xs) 10 66 = some (0, 6, 2) := (show xlk xF0 10 66 = some (0, 6, 2) by decide +kernel)
theorem f10_69 {xs : List Int32} : xtF (xTa xs) 10 69 = some (0, 7, 2) := (show xlk xF0 10 69 = some (0, 7, 2) by decide +kernel)
theorem f11_9 {xs : List Int32} : xtF (xTa xs) 11 9 = some (2, 0, 1) := (show xlk xF0 11 9 = some (2, 0, 1) by decide +kernel)
theorem f11_15 {xs : List Int32} : xtF (xTa xs) 11 15 = some (2, 2, 1) := (show xlk xF0 11 15 = some (2, 2, 1) by decide +kernel)
theorem f11_19 {xs : List Int32} : xtF (xTa xs) 11 19 = some (2, 3, 1) := (show xlk xF0 11 19 = some (2, 3, 1) by decide +kernel)
theorem f11_22 {xs : List Int32} : xtF (xTa xs) 11 22 = some (2, 4, 1) := (show xlk xF0 11 22 = some (2, 4, 1) by decide +kernel)
theorem f11_31 {xs : List Int32} : xtF (xTa xs) 11 31 = some (2, 1, 1) := (show xlk xF0 11 31 = some (2, 1, 1) by decide +kernel)
theorem f11_35 {xs : List Int32} : xtF (xTa xs) 11 35 = some (2, 5, 1) := (show xlk xF0 11 35 = some (2, 5, 1) by decide +kernel)
theorem f12_15 {xs : List Int32} : xtF (xTa xs) 12 15 = some (2, 2, 3) := (show xlk xF0 12 15 = some (2, 2, 3) by decide +kernel)
theorem f13_15 {xs : List Int32} : xtF (xTa xs) 13 15 = some (2, 2, 3) := (show xlk xF0 13 15 = some (2, 2, 3) by decide +kernel)
theorem f14_39 {xs : List Int32} : xtF (xTa xs) 14 39 = some (2, 8, 0) := (show xlk xF0 14 39 = some (2, 8, 0) by decide +kernel)
theorem f14_42 {xs : List Int32} : xtF (xTa xs) 14 42 = some (2, 7, 0) := (show xlk xF0 14 42 = some (2, 7, 0) by decide +kernel)
theorem f15_35 {xs : List Int32} : xtF (xTa xs) 15 35 = some (2, 5, 3) := (show xlk xF0 15 35 = some (2, 5, 3) by decide +kernel)
theorem f15_46 {xs : List Int32} : xtF (xTa xs) 15 46 = some (2, 6, 0) := (show xlk xF0 15 46 = some (2, 6, 0) by decide +kernel)
theorem f16_46 {xs : List Int32} : xtF (xTa xs) 16 46 = some (2, 6, 0) := (show xlk xF0 16 46 = some (2, 6, 0) by decide +kernel)
theorem f17_35 {xs : List Int32} : xtF (xTa xs) 17 35 = some (2, 5, 3) := (show xlk xF0 17 35 = some (2, 5, 3) by decide +kernel)
theorem f17_46 {xs : List Int32} : xtF (xTa xs) 17 46 = some (2, 6, 0) := (show xlk xF0 17 46 = some (2, 6, 0) by decide +kernel)
theorem f18_11 {xs : List Int32} : xtF (xTa xs) 18 11 = some (3, 0, 1) := (show xlk xF0 18 11 = some (3, 0, 1) by decide +kernel)
theorem f18_22 {xs : List Int32} : xtF (xTa xs) 18 22 = some (3, 2, 1) := (show xlk xF0 18 22 = some (3, 2, 1) by decide +kernel)
theorem f18_26 {xs : List Int32} : xtF (xTa xs) 18 26 = some (3, 3, 1) := (show xlk xF0 18 26 = some (3, 3, 1) by decide +kernel)
theorem f18_30 {xs : List Int32} : xtF (xTa xs) 18 30 = some (3, 5, 1) := (show xlk xF0 18 30 = some (3, 5, 1) by decide +kernel)
theorem f18_33 {xs : List Int32} : xtF (xTa xs) 18 33 = some (3, 6, 1) := (show xlk xF0 18 33 = some (3, 6, 1) by decide +kernel)
theorem f19_36 {xs : List Int32} : xtF (xTa xs) 19 36 = some (3, 1, 0) := (show xlk xF0 19 36 = some (3, 1, 0) by decide +kernel)
theorem f20_40 {xs : List Int32} : xtF (xTa xs) 20 40 = some (2, 7, 2) := (show xlk xF0 20 40 = some (2, 7, 2) by decide +kernel)
theorem f20_46 {xs : List Int32} : xtF (xTa xs) 20 46 = some (1, 3, 2) := (show xlk xF0 20 46 = some (1, 3, 2) by decide +kernel)
theorem f20_55 {xs : List Int32} : xtF (xTa xs) 20 55 = some (0, 1, 2) := (show xlk xF0 20 55 = some (0, 1, 2) by decide +kernel)
theorem f21_40 {xs : List Int32} : xtF (xTa xs) 21 40 = some (2, 7, 2) := (show xlk xF0 21 40 = some (2, 7, 2) by decide +kernel)
theorem f21_46 {xs : List Int32} : xtF (xTa xs) 21 46 = some (1, 3, 2) := (show xlk xF0 21 46 = some (1, 3, 2) by decide +kernel)
theorem f21_55 {xs : List Int32} : xtF (xTa xs) 21 55 = some (0, 1, 2) := (show xlk xF0 21 55 = some (0, 1, 2) by decide +kernel)
theorem f22_11 {xs : List Int32} : xtF (xTa xs) 22 11 = some (3, 0, 3) := (show xlk xF0 22 11 = some (3, 0, 3) by decide +kernel)
theorem f22_36 {xs : List Int32} : xtF (xTa xs) 22 36 = some (3, 1, 0) := (show xlk xF0 22 36 = some (3, 1, 0) by decide +kernel)
theorem f23_11 {xs : List Int32} : xtF (xTa xs) 23 11 = some (3, 0, 3) := (show xlk xF0 23 11 = some (3, 0, 3) by decide +kernel)
theorem f23_36 {xs : List Int32} : xtF (xTa xs) 23 36 = some (3, 1, 0) := (show xlk xF0 23 36 = some (3, 1, 0) by decide +kernel)
theorem f23_76 {xs : List Int32} : xtF (xTa xs) 23 76 = some (0, 0, 2) := (show xlk xF0 23 76 = some (0, 0, 2) by decide +kernel)
theorem f24_11 {xs : List Int32} : xtF (xTa xs) 24 11 = some (3, 0, 3) := (show xlk xF0 24 11 = some (3, 0, 3) by decide +kernel)
theorem f24_36 {xs : List Int32} : xtF (xTa xs) 24 36 = some (3, 1, 0) := (show xlk xF0 24 36 = some (3, 1, 0) by decide +kernel)
theorem f24_76 {xs : List Int32} : xtF (xTa xs) 24 76 = some (0, 0, 2) := (show xlk xF0 24 76 = some (0, 0, 2) by decide +kernel)
theorem f24_83 {xs : List Int32} : xtF (xTa xs) 24 83 = some (3, 7, 0) := (show xlk xF0 24 83 = some (3, 7, 0) by decide +kernel)
theorem f24_98 {xs : List Int32} : xtF (xTa xs) 24 98 = some (5, 8, 2) := (show xlk xF0 24 98 = some (5, 8, 2) by decide +kernel)
theorem f25_55 {xs : List Int32} : xtF (xTa xs) 25 55 = some (0, 1, 2) := (show xlk xF0 25 55 = some (0, 1, 2) by decide +kernel)
theorem f25_114 {xs : List Int32} : xtF (xTa xs) 25 114 = some (0, 8, 2) := (show xlk xF0 25 114 = some (0, 8, 2) by decide +kernel)
theorem f26_22 {xs : List Int32} : xtF (xTa xs) 26 22 = some (3, 2, 3) := (show xlk xF0 26 22 = some (3, 2, 3) by decide +kernel)
theorem f26_117 {xs : List Int32} : xtF (xTa xs) 26 117 = some (5, 4, 2) := (show xlk xF0 26 117 = some (5, 4, 2) by decide +kernel)
theorem f26_131 {xs : List Int32} : xtF (xTa xs) 26 131 = some (9, 1, 2) := (show xlk xF0 26 131 = some (9, 1, 2) by decide +kernel)
theorem f28_55 {xs : List Int32} : xtF (xTa xs) 28 55 = some (0, 1, 2) := (show xlk xF0 28 55 = some (0, 1, 2) by decide +kernel)
theorem f28_148 {xs : List Int32} : xtF (xTa xs) 28 148 = some (0, 3, 2) := (show xlk xF0 28 148 = some (0, 3, 2) by decide +kernel)
theorem f28_151 {xs : List Int32} : xtF (xTa xs) 28 151 = some (3, 8, 0) := (show xlk xF0 28 151 = some (3, 8, 0) by decide +kernel)
theorem f28_154 {xs : List Int32} : xtF (xTa xs) 28 154 = some (3, 9, 0) := (show xlk xF0 28 154 = some (3, 9, 0) by decide +kernel)
theorem f28_166 {xs : List Int32} : xtF (xTa xs) 28 166 = some (3, 4, 0) := (show xlk xF0 28 166 = some (3, 4, 0) by decide +kernel)
theorem f29_22 {xs : List Int32} : xtF (xTa xs) 29 22 = some (3, 2, 3) := (show xlk xF0 29 22 = some (3, 2, 3) by decide +kernel)
theorem f29_55 {xs : List Int32} : xtF (xTa xs) 29 55 = some (0, 1, 2) := (show xlk xF0 29 55 = some (0, 1, 2) by decide +kernel)
theorem f29_76 {xs : List Int32} : xtF (xTa xs) 29 76 = some (0, 0, 2) := (show xlk xF0 29 76 = some (0, 0, 2) by decide +kernel)
theorem f29_166 {xs : List Int32} : xtF (xTa xs) 29 166 = some (3, 4, 0) := (show xlk xF0 29 166 = some (3, 4, 0) by decide +kernel)
theorem f29_172 {xs : List Int32} : xtF (xTa xs) 29 172 = some (1, 0, 4) := (show xlk xF0 29 172 = some (1, 0, 4) by decide +kernel)
theorem f29_179 {xs : List Int32} : xtF (xTa xs) 29 179 = some (0, 5, 2) := (show xlk xF0 29 179 = some (0, 5, 2) by decide +kernel)
theorem f29_182 {xs : List Int32} : xtF (xTa xs) 29 182 = some (0, 4, 2) := (show xlk xF0 29 182 = some (0, 4, 2) by decide +kernel)
theorem f29_189 {xs : List Int32} : xtF (xTa xs) 29 189 = some (6, 6, 2) := (show xlk xF0 29 189 = some (6, 6, 2) by decide +kernel)
theorem f29_197 {xs : List Int32} : xtF (xTa xs) 29 197 = some (6, 2, 2) := (show xlk xF0 29 197 = some (6, 2, 2) by decide +kernel)
theorem f29_200 {xs : List Int32} : xtF (xTa xs) 29 200 = some (6, 3, 2) := (show xlk xF0 29 200 = some (6, 3, 2) by decide +kernel)
theorem f29_206 {xs : List Int32} : xtF (xTa xs) 29 206 = some (6, 0, 2) := (show xlk xF0 29 206 = some (6, 0, 2) by decide +kernel)
theorem f29_207 {xs : List Int32} : xtF (xTa xs) 29 207 = some (6, 7, 2) := (show xlk xF0 29 207 = some (6, 7, 2) by decide +kernel)
theorem f30_22 {xs : List Int32} : xtF (xTa xs) 30 22 = some (3, 2, 3) := (show xlk xF0 30 22 = some (3, 2, 3) by decide +kernel)
theorem f30_55 {xs : List Int32} : xtF (xTa xs) 30 55 = some (0, 1, 2) := (show xlk xF0 30 55 = some (0, 1, 2) by decide +kernel)
theorem f30_226 {xs : List Int32} : xtF (xTa xs) 30 226 = some (0, 6, 2) := (show xlk xF0 30 226 = some (0, 6, 2) by decide +kernel)
theorem f30_229 {xs : List Int32} : xtF (xTa xs) 30 229 = some (0, 7, 2) := (show xlk xF0 30 229 = some (0, 7, 2) by decide +kernel)
theorem f30_236 {xs : List Int32} : xtF (xTa xs) 30 236 = some (0, 9, 2) := (show xlk xF0 30 236 = some (0, 9, 2) by decide +kernel)
theorem f31_22 {xs : List Int32} : xtF (xTa xs) 31 22 = some (3, 2, 3) := (show xlk xF0 31 22 = some (3, 2, 3) by decide +kernel)
theorem f31_26 {xs : List Int32} : xtF (xTa xs) 31 26 = some (3, 3, 3) := (show xlk xF0 31 26 = some (3, 3, 3) by decide +kernel)
theorem f31_131 {xs : List Int32} : xtF (xTa xs) 31 131 = some (9, 1, 2) := (show xlk xF0 31 131 = some (9, 1, 2) by decide +kernel)
theorem f31_166 {xs : List Int32} : xtF (xTa xs) 31 166 = some (3, 4, 0) := (show xlk xF0 31 166 = some (3, 4, 0) by decide +kernel)
theorem f32_22 {xs : List Int32} : xtF (xTa xs) 32 22 = some (3, 2, 3) := (show xlk xF0 32 22 = some (3, 2, 3) by decide +kernel)
theorem f32_26 {xs : List Int32} : xtF (xTa xs) 32 26 = some (3, 3, 3) := (show xlk xF0 32 26 = some (3, 3, 3) by decide +kernel)
theorem f32_131 {xs : List Int32} : xtF (xTa xs) 32 131 = some (9, 1, 2) := (show xlk xF0 32 131 = some (9, 1, 2) by decide +kernel)
theorem f32_166 {xs : List Int32} : xtF (xTa xs) 32 166 = some (3, 4, 0) := (show xlk xF0 32 166 = some (3, 4, 0) by decide +kernel)
theorem f33_151 {xs : List Int32} : xtF (xTa xs) 33 151 = some (3, 8, 0) := (show xlk xF0 33 151 = some (3, 8, 0) by decide +kernel)
theorem f33_154 {xs : List Int32} : xtF (xTa xs) 33 154 = some (3, 9, 0) := (show xlk xF0 33 154 = some (3, 9, 0) by decide +kernel)
theorem f34_22 {xs : List Int32} : xtF (xTa xs) 34 22 = some (3, 2, 3) := (show xlk xF0 34 22 = some (3, 2, 3) by decide +kernel)
theorem f34_26 {xs : List Int32} : xtF (xTa xs) 34 26 = some (3, 3, 3) := (show xlk xF0 34 26 = some (3, 3, 3) by decide +kernel)
theorem f34_131 {xs : List Int32} : xtF (xTa xs) 34 131 = some (9, 1, 2) := (show xlk xF0 34 131 = some (9, 1, 2) by decide +kernel)
theorem f34_166 {xs : List Int32} : xtF (xTa xs) 34 166 = some (3, 4, 0) := (show xlk xF0 34 166 = some (3, 4, 0) by decide +kernel)
theorem f35_83 {xs : List Int32} : xtF (xTa xs) 35 83 = some (3, 7, 0) := (show xlk xF0 35 83 = some (3, 7, 0) by decide +kernel)
theorem f35_166 {xs : List Int32} : xtF (xTa xs) 35 166 = some (3, 4, 0) := (show xlk xF0 35 166 = some (3, 4, 0) by decide +kernel)
theorem f36_83 {xs : List Int32} : xtF (xTa xs) 36 83 = some (3, 7, 0) := (show xlk xF0 36 83 = some (3, 7, 0) by decide +kernel)
theorem f36_166 {xs : List Int32} : xtF (xTa xs) 36 166 = some (3, 4, 0) := (show xlk xF0 36 166 = some (3, 4, 0) by decide +kernel)
theorem f37_30 {xs : List Int32} : xtF (xTa xs) 37 30 = some (3, 5, 3) := (show xlk xF0 37 30 = some (3, 5, 3) by decide +kernel)
theorem f37_166 {xs : List Int32} : xtF (xTa xs) 37 166 = some (3, 4, 0) := (show xlk xF0 37 166 = some (3, 4, 0) by decide +kernel)
theorem f38_30 {xs : List Int32} : xtF (xTa xs) 38 30 = some (3, 5, 3) := (show xlk xF0 38 30 = some (3, 5, 3) by decide +kernel)
theorem f38_33 {xs : List Int32} : xtF (xTa xs) 38 33 = some (3, 6, 3) := (show xlk xF0 38 33 = some (3, 6, 3) by decide +kernel)
theorem f38_166 {xs : List Int32} : xtF (xTa xs) 38 166 = some (3, 4, 0) := (show xlk xF0 38 166 = some (3, 4, 0) by decide +kernel)
theorem f39_22 {xs : List Int32} : xtF (xTa xs) 39 22 = some (3, 2, 3) := (show xlk xF0 39 22 = some (3, 2, 3) by decide +kernel)
theorem f39_26 {xs : List Int32} : xtF (xTa xs) 39 26 = some (3, 3, 3) := (show xlk xF0 39 26 = some (3, 3, 3) by decide +kernel)
theorem f39_30 {xs : List Int32} : xtF (xTa xs) 39 30 = some (3, 5, 3) := (show xlk xF0 39 30 = some (3, 5, 3) by decide +kernel)
theorem f39_154 {xs : List Int32} : xtF (xTa xs) 39 154 = some (3, 9, 0) := (show xlk xF0 39 154 = some (3, 9, 0) by decide +kernel)
theorem f39_166 {xs : List Int32} : xtF (xTa xs) 39 166 = some (3, 4, 0) := (show xlk xF0 39 166 = some (3, 4, 0) by decide +kernel)
theorem f39_256 {xs : List Int32} : xtF (xTa xs) 39 256 = some (5, 5, 2) := (show xlk xF0 39 256 = some (5, 5, 2) by decide +kernel)
theorem f40_9 {xs : List Int32} : xtF (xTa xs) 40 9 = some (4, 0, 1) := (show xlk xF0 40 9 = some (4, 0, 1) by decide +kernel)
theorem f40_15 {xs : List Int32} : xtF (xTa xs) 40 15 = some (4, 1, 1) := (show xlk xF0 40 15 = some (4, 1, 1) by decide +kernel)
theorem f41_9 {xs : List Int32} : xtF (xTa xs) 41 9 = some (4, 0, 3) := (show xlk xF0 41 9 = some (4, 0, 3) by decide +kernel)
theorem f41_15 {xs : List Int32} : xtF (xTa xs) 41 15 = some (4, 1, 3) := (show xlk xF0 41 15 = some (4, 1, 3) by decide +kernel)
theorem f41_18 {xs : List Int32} : xtF (xTa xs) 41 18 = some (4, 2, 0) := (show xlk xF0 41 18 = some (4, 2, 0) by decide +kernel)
theorem f42_18 {xs : List Int32} : xtF (xTa xs) 42 18 = some (4, 2, 0) := (show xlk xF0 42 18 = some (4, 2, 0) by decide +kernel)
theorem f43_60 {xs : List Int32} : xtF (xTa xs) 43 60 = some (1, 3, 2) := (show xlk xF0 43 60 = some (1, 3, 2) by decide +kernel)
theorem f44_82 {xs : List Int32} : xtF (xTa xs) 44 82 = some (0, 9, 2) := (show xlk xF0 44 82 = some (0, 9, 2) by decide +kernel)
theorem f44_86 {xs : List Int32} : xtF (xTa xs) 44 86 = some (0, 2, 2) := (show xlk xF0 44 86 = some (0, 2, 2) by decide +kernel)
theorem f44_89 {xs : List Int32} : xtF (xTa xs) 44 89 = some (0, 5, 2) := (show xlk xF0 44 89 = some (0, 5, 2) by decide +kernel)
theorem f44_92 {xs : List Int32} : xtF (xTa xs) 44 92 = some (0, 4, 2) := (show xlk xF0 44 92 = some (0, 4, 2) by decide +kernel)
theorem f44_99 {xs : List Int32} : xtF (xTa xs) 44 99 = some (6, 0, 2) := (show xlk xF0 44 99 = some (6, 0, 2) by decide +kernel)
theorem f44_104 {xs : List Int32} : xtF (xTa xs) 44 104 = some (6, 7, 2) := (show xlk xF0 44 104 = some (6, 7, 2) by decide +kernel)
theorem f44_105 {xs : List Int32} : xtF (xTa xs) 44 105 = some (6, 1, 2) := (show xlk xF0 44 105 = some (6, 1, 2) by decide +kernel)
theorem f45_86 {xs : List Int32} : xtF (xTa xs) 45 86 = some (0, 2, 2) := (show xlk xF0 45 86 = some (0, 2, 2) by decide +kernel)
theorem f46_60 {xs : List Int32} : xtF (xTa xs) 46 60 = some (1, 3, 2) := (show xlk xF0 46 60 = some (1, 3, 2) by decide +kernel)
theorem f46_86 {xs : List Int32} : xtF (xTa xs) 46 86 = some (0, 2, 2) := (show xlk xF0 46 86 = some (0, 2, 2) by decide +kernel)
theorem f46_109 {xs : List Int32} : xtF (xTa xs) 46 109 = some (0, 1, 2) := (show xlk xF0 46 109 = some (0, 1, 2) by decide +kernel)
theorem f46_110 {xs : List Int32} : xtF (xTa xs) 46 110 = some (1, 0, 4) := (show xlk xF0 46 110 = some (1, 0, 4) by decide +kernel)
theorem f46_114 {xs : List Int32} : xtF (xTa xs) 46 114 = some (0, 6, 2) := (show xlk xF0 46 114 = some (0, 6, 2) by decide +kernel)
theorem f46_117 {xs : List Int32} : xtF (xTa xs) 46 117 = some (0, 7, 2) := (show xlk xF0 46 117 = some (0, 7, 2) by decide +kernel)
theorem f47_86 {xs : List Int32} : xtF (xTa xs) 47 86 = some (0, 2, 2) := (show xlk xF0 47 86 = some (0, 2, 2) by decide +kernel)
theorem f47_124 {xs : List Int32} : xtF (xTa xs) 47 124 = some (2, 4, 4) := (show xlk xF0 47 124 = some (2, 4, 4) by decide +kernel)
theorem f48_124 {xs : List Int32} : xtF (xTa xs) 48 124 = some (2, 4, 4) := (show xlk xF0 48 124 = some (2, 4, 4) by decide +kernel)
theorem f48_128 {xs : List Int32} : xtF (xTa xs) 48 128 = some (2, 6, 2) := (show xlk xF0 48 128 = some (2, 6, 2) by decide +kernel)
theorem f50_14 {xs : List Int32} : xtF (xTa xs) 50 14 = some (5, 0, 1) := (show xlk xF0 50 14 = some (5, 0, 1) by decide +kernel)
theorem f50_20 {xs : List Int32} : xtF (xTa xs) 50 20 = some (5, 1, 1) := (show xlk xF0 50 20 = some (5, 1, 1) by decide +kernel)
theorem f50_26 {xs : List Int32} : xtF (xTa xs) 50 26 = some (5, 2, 1) := (show xlk xF0 50 26 = some (5, 2, 1) by decide +kernel)
theorem f51_14 {xs : List Int32} : xtF (xTa xs) 51 14 = some (5, 0, 3) := (show xlk xF0 51 14 = some (5, 0, 3) by decide +kernel)
theorem f51_33 {xs : List Int32} : xtF (xTa xs) 51 33 = some (5, 3, 0) := (show xlk xF0 51 33 = some (5, 3, 0) by decide +kernel)
theorem f51_37 {xs : List Int32} : xtF (xTa xs) 51 37 = some (5, 4, 0) := (show xlk xF0 51 37 = some (5, 4, 0) by decide +kernel)
theorem f51_40 {xs : List Int32} : xtF (xTa xs) 51 40 = some (5, 5, 0) := (show xlk xF0 51 40 = some (5, 5, 0) by decide +kernel)
theorem f51_43 {xs : List Int32} : xtF (xTa xs) 51 43 = some (5, 6, 0) := (show xlk xF0 51 43 = some (5, 6, 0) by decide +kernel)
theorem f51_46 {xs : List Int32} : xtF (xTa xs) 51 46 = some (5, 7, 0) := (show xlk xF0 51 46 = some (5, 7, 0) by decide +kernel)
theorem f51_49 {xs : List Int32} : xtF (xTa xs) 51 49 = some (5, 8, 0) := (show xlk xF0 51 49 = some (5, 8, 0) by decide +kernel)
theorem f52_14 {xs : List Int32} : xtF (xTa xs) 52 14 = some (5, 0, 3) := (show xlk xF0 52 14 = some (5, 0, 3) by decide +kernel)
theorem f52_49 {xs : List Int32} : xtF (xTa xs) 52 49 = some (5, 8, 0) := (show xlk xF0 52 49 = some (5, 8, 0) by decide +kernel)
theorem f55_64 {xs : List Int32} : xtF (xTa xs) 55 64 = some (2, 2, 4) := (show xlk xF0 55 64 = some (2, 2, 4) by decide +kernel)
theorem f55_68 {xs : List Int32} : xtF (xTa xs) 55 68 = some (2, 1, 4) := (show xlk xF0 55 68 = some (2, 1, 4) by decide +kernel)
theorem f55_71 {xs : List Int32} : xtF (xTa xs) 55 71 = some (9, 1, 2) := (show xlk xF0 55 71 = some (9, 1, 2) by decide +kernel)
theorem f56_14 {xs : List Int32} : xtF (xTa xs) 56 14 = some (5, 0, 3) := (show xlk xF0 56 14 = some (5, 0, 3) by decide +kernel)
theorem f56_20 {xs : List Int32} : xtF (xTa xs) 56 20 = some (5, 1, 3) := (show xlk xF0 56 20 = some (5, 1, 3) by decide +kernel)
theorem f56_33 {xs : List Int32} : xtF (xTa xs) 56 33 = some (5, 3, 0) := (show xlk xF0 56 33 = some (5, 3, 0) by decide +kernel)
theorem f56_43 {xs : List Int32} : xtF (xTa xs) 56 43 = some (5, 6, 0) := (show xlk xF0 56 43 = some (5, 6, 0) by decide +kernel)
theorem f56_46 {xs : List Int32} : xtF (xTa xs) 56 46 = some (5, 7, 0) := (show xlk xF0 56 46 = some (5, 7, 0) by decide +kernel)
theorem f56_49 {xs : List Int32} : xtF (xTa xs) 56 49 = some (5, 8, 0) := (show xlk xF0 56 49 = some (5, 8, 0) by decide +kernel)
theorem f56_71 {xs : List Int32} : xtF (xTa xs) 56 71 = some (9, 1, 2) := (show xlk xF0 56 71 = some (9, 1, 2) by decide +kernel)
theorem f57_26 {xs : List Int32} : xtF (xTa xs) 57 26 = some (5, 2, 3) := (show xlk xF0 57 26 = some (5, 2, 3) by decide +kernel)
theorem f57_37 {xs : List Int32} : xtF (xTa xs) 57 37 = some (5, 4, 0) := (show xlk xF0 57 37 = some (5, 4, 0) by decide +kernel)
theorem f58_26 {xs : List Int32} : xtF (xTa xs) 58 26 = some (5, 2, 3) := (show xlk xF0 58 26 = some (5, 2, 3) by decide +kernel)
theorem f58_37 {xs : List Int32} : xtF (xTa xs) 58 37 = some (5, 4, 0) := (show xlk xF0 58 37 = some (5, 4, 0) by decide +kernel)
theorem f60_14 {xs : List Int32} : xtF (xTa xs) 60 14 = some (7, 0, 1) := (show xlk xF0 60 14 = some (7, 0, 1) by decide +kernel)
theorem f61_20 {xs : List Int32} : xtF (xTa xs) 61 20 = some (7, 1, 0) := (show xlk xF0 61 20 = some (7, 1, 0) by decide +kernel)
theorem f61_24 {xs : List Int32} : xtF (xTa xs) 61 24 = some (1, 0, 4) := (show xlk xF0 61 24 = some (1, 0, 4) by decide +kernel)
theorem f61_29 {xs : List Int32} : xtF (xTa xs) 61 29 = some (7, 2, 0) := (show xlk xF0 61 29 = some (7, 2, 0) by decide +kernel)
theorem f61_30 {xs : List Int32} : xtF (xTa xs) 61 30 = some (7, 3, 0) := (show xlk xF0 61 30 = some (7, 3, 0) by decide +kernel)
theorem f61_34 {xs : List Int32} : xtF (xTa xs) 61 34 = some (7, 4, 0) := (show xlk xF0 61 34 = some (7, 4, 0) by decide +kernel)
theorem f61_38 {xs : List Int32} : xtF (xTa xs) 61 38 = some (7, 5, 0) := (show xlk xF0 61 38 = some (7, 5, 0) by decide +kernel)
theorem f61_42 {xs : List Int32} : xtF (xTa xs) 61 42 = some (7, 6, 0) := (show xlk xF0 61 42 = some (7, 6, 0) by decide +kernel)
theorem f61_48 {xs : List Int32} : xtF (xTa xs) 61 48 = some (9, 1, 2) := (show xlk xF0 61 48 = some (9, 1, 2) by decide +kernel)
theorem f62_38 {xs : List Int32} : xtF (xTa xs) 62 38 = some (7, 5, 0) := (show xlk xF0 62 38 = some (7, 5, 0) by decide +kernel)
theorem f62_42 {xs : List Int32} : xtF (xTa xs) 62 42 = some (7, 6, 0) := (show xlk xF0 62 42 = some (7, 6, 0) by decide +kernel)
theorem f63_29 {xs : List Int32} : xtF (xTa xs) 63 29 = some (7, 2, 0) := (show xlk xF0 63 29 = some (7, 2, 0) by decide +kernel)
theorem f63_38 {xs : List Int32} : xtF (xTa xs) 63 38 = some (7, 5, 0) := (show xlk xF0 63 38 = some (7, 5, 0) by decide +kernel)
theorem f63_48 {xs : List Int32} : xtF (xTa xs) 63 48 = some (9, 1, 2) := (show xlk xF0 63 48 = some (9, 1, 2) by decide +kernel)
theorem f64_29 {xs : List Int32} : xtF (xTa xs) 64 29 = some (7, 2, 0) := (show xlk xF0 64 29 = some (7, 2, 0) by decide +kernel)
theorem f65_30 {xs : List Int32} : xtF (xTa xs) 65 30 = some (7, 3, 0) := (show xlk xF0 65 30 = some (7, 3, 0) by decide +kernel)
theorem f65_84 {xs : List Int32} : xtF (xTa xs) 65 84 = some (0, 1, 2) := (show xlk xF0 65 84 = some (0, 1, 2) by decide +kernel)
theorem f66_20 {xs : List Int32} : xtF (xTa xs) 66 20 = some (7, 1, 0) := (show xlk xF0 66 20 = some (7, 1, 0) by decide +kernel)
theorem f66_30 {xs : List Int32} : xtF (xTa xs) 66 30 = some (7, 3, 0) := (show xlk xF0 66 30 = some (7, 3, 0) by decide +kernel)
theorem f66_97 {xs : List Int32} : xtF (xTa xs) 66 97 = some (1, 3, 2) := (show xlk xF0 66 97 = some (1, 3, 2) by decide +kernel)
theorem f67_30 {xs : List Int32} : xtF (xTa xs) 67 30 = some (7, 3, 0) := (show xlk xF0 67 30 = some (7, 3, 0) by decide +kernel)
theorem f67_34 {xs : List Int32} : xtF (xTa xs) 67 34 = some (7, 4, 0) := (show xlk xF0 67 34 = some (7, 4, 0) by decide +kernel)
theorem f67_84 {xs : List Int32} : xtF (xTa xs) 67 84 = some (0, 1, 2) := (show xlk xF0 67 84 = some (0, 1, 2) by decide +kernel)
theorem f67_100 {xs : List Int32} : xtF (xTa xs) 67 100 = some (0, 3, 2) := (show xlk xF0 67 100 = some (0, 3, 2) by decide +kernel)
theorem f67_115 {xs : List Int32} : xtF (xTa xs) 67 115 = some (0, 8, 2) := (show xlk xF0 67 115 = some (0, 8, 2) by decide +kernel)
theorem f68_20 {xs : List Int32} : xtF (xTa xs) 68 20 = some (7, 1, 0) := (show xlk xF0 68 20 = some (7, 1, 0) by decide +kernel)
theorem f68_30 {xs : List Int32} : xtF (xTa xs) 68 30 = some (7, 3, 0) := (show xlk xF0 68 30 = some (7, 3, 0) by decide +kernel)
theorem f68_34 {xs : List Int32} : xtF (xTa xs) 68 34 = some (7, 4, 0) := (show xlk xF0 68 34 = some (7, 4, 0) by decide +kernel)
theorem f69_20 {xs : List Int32} : xtF (xTa xs) 69 20 = some (7, 1, 0) := (show xlk xF0 69 20 = some (7, 1, 0) by decide +kernel)
theorem f69_29 {xs : List Int32} : xtF (xTa xs) 69 29 = some (7, 2, 0) := (show xlk xF0 69 29 = some (7, 2, 0) by decide +kernel)
theorem f69_48 {xs : List Int32} : xtF (xTa xs) 69 48 = some (9, 1, 2) := (show xlk xF0 69 48 = some (9, 1, 2) by decide +kernel)
theorem f69_138 {xs : List Int32} : xtF (xTa xs) 69 138 = some (1, 5, 2) := (show xlk xF0 69 138 = some (1, 5, 2) by decide +kernel)
theorem f70_29 {xs : List Int32} : xtF (xTa xs) 70 29 = some (7, 2, 0) := (show xlk xF0 70 29 = some (7, 2, 0) by decide +kernel)
theorem f71_20 {xs : List Int32} : xtF (xTa xs) 71 20 = some (7, 1, 0) := (show xlk xF0 71 20 = some (7, 1, 0) by decide +kernel)
theorem f71_29 {xs : List Int32} : xtF (xTa xs) 71 29 = some (7, 2, 0) := (show xlk xF0 71 29 = some (7, 2, 0) by decide +kernel)
theorem f71_30 {xs : List Int32} : xtF (xTa xs) 71 30 = some (7, 3, 0) := (show xlk xF0 71 30 = some (7, 3, 0) by decide +kernel)
theorem f72_29 {xs : List Int32} : xtF (xTa xs) 72 29 = some (7, 2, 0) := (show xlk xF0 72 29 = some (7, 2, 0) by decide +kernel)
theorem f72_30 {xs : List Int32} : xtF (xTa xs) 72 30 = some (7, 3, 0) := (show xlk xF0 72 30 = some (7, 3, 0) by decide +kernel)
theorem f72_175 {xs : List Int32} : xtF (xTa xs) 72 175 = some (0, 2, 2) := (show xlk xF0 72 175 = some (0, 2, 2) by decide +kernel)
theorem f72_176 {xs : List Int32} : xtF (xTa xs) 72 176 = some (0, 6, 2) := (show xlk xF0 72 176 = some (0, 6, 2) by decide +kernel)
theorem f72_179 {xs : List Int32} : xtF (xTa xs) 72 179 = some (0, 7, 2) := (show xlk xF0 72 179 = some (0, 7, 2) by decide +kernel)
theorem f73_14 {xs : List Int32} : xtF (xTa xs) 73 14 = some (7, 0, 3) := (show xlk xF0 73 14 = some (7, 0, 3) by decide +kernel)
theorem f73_20 {xs : List Int32} : xtF (xTa xs) 73 20 = some (7, 1, 0) := (show xlk xF0 73 20 = some (7, 1, 0) by decide +kernel)
theorem f73_29 {xs : List Int32} : xtF (xTa xs) 73 29 = some (7, 2, 0) := (show xlk xF0 73 29 = some (7, 2, 0) by decide +kernel)
theorem f74_29 {xs : List Int32} : xtF (xTa xs) 74 29 = some (7, 2, 0) := (show xlk xF0 74 29 = some (7, 2, 0) by decide +kernel)
theorem f74_30 {xs : List Int32} : xtF (xTa xs) 74 30 = some (7, 3, 0) := (show xlk xF0 74 30 = some (7, 3, 0) by decide +kernel)
theorem f74_207 {xs : List Int32} : xtF (xTa xs) 74 207 = some (6, 6, 2) := (show xlk xF0 74 207 = some (6, 6, 2) by decide +kernel)
theorem f74_212 {xs : List Int32} : xtF (xTa xs) 74 212 = some (0, 5, 2) := (show xlk xF0 74 212 = some (0, 5, 2) by decide +kernel)
theorem f74_215 {xs : List Int32} : xtF (xTa xs) 74 215 = some (6, 0, 2) := (show xlk xF0 74 215 = some (6, 0, 2) by decide +kernel)
theorem f74_216 {xs : List Int32} : xtF (xTa xs) 74 216 = some (6, 3, 2) := (show xlk xF0 74 216 = some (6, 3, 2) by decide +kernel)
theorem f75_29 {xs : List Int32} : xtF (xTa xs) 75 29 = some (7, 2, 0) := (show xlk xF0 75 29 = some (7, 2, 0) by decide +kernel)
theorem f77_20 {xs : List Int32} : xtF (xTa xs) 77 20 = some (7, 1, 0) := (show xlk xF0 77 20 = some (7, 1, 0) by decide +kernel)
theorem f78_29 {xs : List Int32} : xtF (xTa xs) 78 29 = some (7, 2, 0) := (show xlk xF0 78 29 = some (7, 2, 0) by decide +kernel)
theorem f78_215 {xs : List Int32} : xtF (xTa xs) 78 215 = some (6, 0, 2) := (show xlk xF0 78 215 = some (6, 0, 2) by decide +kernel)
theorem f78_228 {xs : List Int32} : xtF (xTa xs) 78 228 = some (6, 2, 2) := (show xlk xF0 78 228 = some (6, 2, 2) by decide +kernel)
theorem f79_29 {xs : List Int32} : xtF (xTa xs) 79 29 = some (7, 2, 0) := (show xlk xF0 79 29 = some (7, 2, 0) by decide +kernel)
theorem f79_215 {xs : List Int32} : xtF (xTa xs) 79 215 = some (6, 0, 2) := (show xlk xF0 79 215 = some (6, 0, 2) by decide +kernel)
theorem f79_228 {xs : List Int32} : xtF (xTa xs) 79 228 = some (6, 2, 2) := (show xlk xF0 79 228 = some (6, 2, 2) by decide +kernel)
theorem f79_234 {xs : List Int32} : xtF (xTa xs) 79 234 = some (6, 4, 2) := (show xlk xF0 79 234 = some (6, 4, 2) by decide +kernel)
theorem f79_235 {xs : List Int32} : xtF (xTa xs) 79 235 = some (6, 5, 2) := (show xlk xF0 79 235 = some (6, 5, 2) by decide +kernel)
theorem f80_29 {xs : List Int32} : xtF (xTa xs) 80 29 = some (7, 2, 0) := (show xlk xF0 80 29 = some (7, 2, 0) by decide +kernel)
theorem f81_11 {xs : List Int32} : xtF (xTa xs) 81 11 = some (8, 0, 1) := (show xlk xF0 81 11 = some (8, 0, 1) by decide +kernel)
theorem f82_11 {xs : List Int32} : xtF (xTa xs) 82 11 = some (8, 0, 3) := (show xlk xF0 82 11 = some (8, 0, 3) by decide +kernel)
theorem f82_17 {xs : List Int32} : xtF (xTa xs) 82 17 = some (8, 1, 0) := (show xlk xF0 82 17 = some (8, 1, 0) by decide +kernel)
theorem f82_24 {xs : List Int32} : xtF (xTa xs) 82 24 = some (2, 1, 4) := (show xlk xF0 82 24 = some (2, 1, 4) by decide +kernel)
theorem f82_34 {xs : List Int32} : xtF (xTa xs) 82 34 = some (2, 0, 4) := (show xlk xF0 82 34 = some (2, 0, 4) by decide +kernel)
theorem f83_11 {xs : List Int32} : xtF (xTa xs) 83 11 = some (8, 0, 3) := (show xlk xF0 83 11 = some (8, 0, 3) by decide +kernel)
theorem f83_17 {xs : List Int32} : xtF (xTa xs) 83 17 = some (8, 1, 0) := (show xlk xF0 83 17 = some (8, 1, 0) by decide +kernel)
theorem f85_17 {xs : List Int32} : xtF (xTa xs) 85 17 = some (8, 1, 0) := (show xlk xF0 85 17 = some (8, 1, 0) by decide +kernel)
theorem f86_17 {xs : List Int32} : xtF (xTa xs) 86 17 = some (8, 1, 0) := (show xlk xF0 86 17 = some (8, 1, 0) by decide +kernel)
theorem f86_48 {xs : List Int32} : xtF (xTa xs) 86 48 = some (2, 8, 2) := (show xlk xF0 86 48 = some (2, 8, 2) by decide +kernel)
theorem f88_11 {xs : List Int32} : xtF (xTa xs) 88 11 = some (8, 0, 3) := (show xlk xF0 88 11 = some (8, 0, 3) by decide +kernel)
theorem f88_17 {xs : List Int32} : xtF (xTa xs) 88 17 = some (8, 1, 0) := (show xlk xF0 88 17 = some (8, 1, 0) by decide +kernel)
theorem f88_24 {xs : List Int32} : xtF (xTa xs) 88 24 = some (2, 1, 4) := (show xlk xF0 88 24 = some (2, 1, 4) by decide +kernel)
theorem f88_56 {xs : List Int32} : xtF (xTa xs) 88 56 = some (2, 2, 4) := (show xlk xF0 88 56 = some (2, 2, 4) by decide +kernel)
theorem f89_64 {xs : List Int32} : xtF (xTa xs) 89 64 = some (2, 3, 4) := (show xlk xF0 89 64 = some (2, 3, 4) by decide +kernel)
theorem f90_24 {xs : List Int32} : xtF (xTa xs) 90 24 = some (2, 1, 4) := (show xlk xF0 90 24 = some (2, 1, 4) by decide +kernel)
theorem f90_56 {xs : List Int32} : xtF (xTa xs) 90 56 = some (2, 2, 4) := (show xlk xF0 90 56 = some (2, 2, 4) by decide +kernel)
theorem f90_64 {xs : List Int32} : xtF (xTa xs) 90 64 = some (2, 3, 4) := (show xlk xF0 90 64 = some (2, 3, 4) by decide +kernel)
theorem f90_67 {xs : List Int32} : xtF (xTa xs) 90 67 = some (9, 1, 2) := (show xlk xF0 90 67 = some (9, 1, 2) by decide +kernel)
theorem f91_48 {xs : List Int32} : xtF (xTa xs) 91 48 = some (2, 8, 2) := (show xlk xF0 91 48 = some (2, 8, 2) by decide +kernel)
theorem f94_98 {xs : List Int32} : xtF (xTa xs) 94 98 = some (0, 9, 2) := (show xlk xF0 94 98 = some (0, 9, 2) by decide +kernel)
theorem f94_106 {xs : List Int32} : xtF (xTa xs) 94 106 = some (1, 0, 4) := (show xlk xF0 94 106 = some (1, 0, 4) by decide +kernel)
theorem f94_111 {xs : List Int32} : xtF (xTa xs) 94 111 = some (0, 6, 2) := (show xlk xF0 94 111 = some (0, 6, 2) by decide +kernel)
theorem f94_114 {xs : List Int32} : xtF (xTa xs) 94 114 = some (0, 7, 2) := (show xlk xF0 94 114 = some (0, 7, 2) by decide +kernel)
theorem f94_117 {xs : List Int32} : xtF (xTa xs) 94 117 = some (1, 5, 2) := (show xlk xF0 94 117 = some (1, 5, 2) by decide +kernel)
theorem f94_124 {xs : List Int32} : xtF (xTa xs) 94 124 = some (0, 5, 2) := (show xlk xF0 94 124 = some (0, 5, 2) by decide +kernel)
theorem f94_127 {xs : List Int32} : xtF (xTa xs) 94 127 = some (0, 4, 2) := (show xlk xF0 94 127 = some (0, 4, 2) by decide +kernel)
theorem f94_134 {xs : List Int32} : xtF (xTa xs) 94 134 = some (6, 0, 2) := (show xlk xF0 94 134 = some (6, 0, 2) by decide +kernel)
theorem f94_139 {xs : List Int32} : xtF (xTa xs) 94 139 = some (6, 4, 2) := (show xlk xF0 94 139 = some (6, 4, 2) by decide +kernel)
theorem f94_140 {xs : List Int32} : xtF (xTa xs) 94 140 = some (6, 5, 2) := (show xlk xF0 94 140 = some (6, 5, 2) by decide +kernel)
theorem f94_141 {xs : List Int32} : xtF (xTa xs) 94 141 = some (6, 7, 2) := (show xlk xF0 94 141 = some (6, 7, 2) by decide +kernel)
theorem f95_15 {xs : List Int32} : xtF (xTa xs) 95 15 = some (9, 0, 1) := (show xlk xF0 95 15 = some (9, 0, 1) by decide +kernel)
theorem f96_15 {xs : List Int32} : xtF (xTa xs) 96 15 = some (9, 0, 3) := (show xlk xF0 96 15 = some (9, 0, 3) by decide +kernel)
theorem f96_21 {xs : List Int32} : xtF (xTa xs) 96 21 = some (9, 1, 0) := (show xlk xF0 96 21 = some (9, 1, 0) by decide +kernel)
theorem f97_15 {xs : List Int32} : xtF (xTa xs) 97 15 = some (9, 0, 3) := (show xlk xF0 97 15 = some (9, 0, 3) by decide +kernel)
theorem f97_21 {xs : List Int32} : xtF (xTa xs) 97 21 = some (9, 1, 0) := (show xlk xF0 97 21 = some (9, 1, 0) by decide +kernel)
theorem f101_21 {xs : List Int32} : xtF (xTa xs) 101 21 = some (9, 1, 0) := (show xlk xF0 101 21 = some (9, 1, 0) by decide +kernel)
theorem f102_21 {xs : List Int32} : xtF (xTa xs) 102 21 = some (9, 1, 0) := (show xlk xF0 102 21 = some (9, 1, 0) by decide +kernel)
theorem f103_15 {xs : List Int32} : xtF (xTa xs) 103 15 = some (9, 0, 3) := (show xlk xF0 103 15 = some (9, 0, 3) by decide +kernel)
theorem f103_21 {xs : List Int32} : xtF (xTa xs) 103 21 = some (9, 1, 0) := (show xlk xF0 103 21 = some (9, 1, 0) by decide +kernel)
theorem f108_21 {xs : List Int32} : xtF (xTa xs) 108 21 = some (9, 1, 0) := (show xlk xF0 108 21 = some (9, 1, 0) by decide +kernel)
theorem f111_14 {xs : List Int32} : xtF (xTa xs) 111 14 = some (10, 0, 1) := (show xlk xF0 111 14 = some (10, 0, 1) by decide +kernel)
theorem f111_21 {xs : List Int32} : xtF (xTa xs) 111 21 = some (10, 1, 1) := (show xlk xF0 111 21 = some (10, 1, 1) by decide +kernel)
theorem f111_28 {xs : List Int32} : xtF (xTa xs) 111 28 = some (10, 2, 1) := (show xlk xF0 111 28 = some (10, 2, 1) by decide +kernel)
theorem f111_35 {xs : List Int32} : xtF (xTa xs) 111 35 = some (10, 3, 1) := (show xlk xF0 111 35 = some (10, 3, 1) by decide +kernel)
theorem f111_42 {xs : List Int32} : xtF (xTa xs) 111 42 = some (10, 4, 1) := (show xlk xF0 111 42 = some (10, 4, 1) by decide +kernel)
theorem f111_49 {xs : List Int32} : xtF (xTa xs) 111 49 = some (10, 5, 0) := (show xlk xF0 111 49 = some (10, 5, 0) by decide +kernel)
theorem f111_56 {xs : List Int32} : xtF (xTa xs) 111 56 = some (10, 6, 0) := (show xlk xF0 111 56 = some (10, 6, 0) by decide +kernel)
theorem f111_60 {xs : List Int32} : xtF (xTa xs) 111 60 = some (10, 7, 0) := (show xlk xF0 111 60 = some (10, 7, 0) by decide +kernel)
theorem f112_14 {xs : List Int32} : xtF (xTa xs) 112 14 = some (10, 0, 3) := (show xlk xF0 112 14 = some (10, 0, 3) by decide +kernel)
theorem f112_63 {xs : List Int32} : xtF (xTa xs) 112 63 = some (9, 1, 2) := (show xlk xF0 112 63 = some (9, 1, 2) by decide +kernel)
theorem f113_14 {xs : List Int32} : xtF (xTa xs) 113 14 = some (10, 0, 3) := (show xlk xF0 113 14 = some (10, 0, 3) by decide +kernel)
theorem f113_63 {xs : List Int32} : xtF (xTa xs) 113 63 = some (9, 1, 2) := (show xlk xF0 113 63 = some (9, 1, 2) by decide +kernel)
theorem f114_14 {xs : List Int32} : xtF (xTa xs) 114 14 = some (10, 0, 3) := (show xlk xF0 114 14 = some (10, 0, 3) by decide +kernel)
theorem f114_21 {xs : List Int32} : xtF (xTa xs) 114 21 = some (10, 1, 3) := (show xlk xF0 114 21 = some (10, 1, 3) by decide +kernel)
theorem f114_63 {xs : List Int32} : xtF (xTa xs) 114 63 = some (9, 1, 2) := (show xlk xF0 114 63 = some (9, 1, 2) by decide +kernel)
theorem f115_14 {xs : List Int32} : xtF (xTa xs) 115 14 = some (10, 0, 3) := (show xlk xF0 115 14 = some (10, 0, 3) by decide +kernel)
theorem f115_21 {xs : List Int32} : xtF (xTa xs) 115 21 = some (10, 1, 3) := (show xlk xF0 115 21 = some (10, 1, 3) by decide +kernel)
theorem f115_63 {xs : List Int32} : xtF (xTa xs) 115 63 = some (9, 1, 2) := (show xlk xF0 115 63 = some (9, 1, 2) by decide +kernel)
theorem f116_14 {xs : List Int32} : xtF (xTa xs) 116 14 = some (10, 0, 3) := (show xlk xF0 116 14 = some (10, 0, 3) by decide +kernel)
theorem f116_21 {xs : List Int32} : xtF (xTa xs) 116 21 = some (10, 1, 3) := (show xlk xF0 116 21 = some (10, 1, 3) by decide +kernel)
theorem f116_63 {xs : List Int32} : xtF (xTa xs) 116 63 = some (9, 1, 2) := (show xlk xF0 116 63 = some (9, 1, 2) by decide +kernel)
theorem f117_14 {xs : List Int32} : xtF (xTa xs) 117 14 = some (10, 0, 3) := (show xlk xF0 117 14 = some (10, 0, 3) by decide +kernel)
theorem f117_21 {xs : List Int32} : xtF (xTa xs) 117 21 = some (10, 1, 3) := (show xlk xF0 117 21 = some (10, 1, 3) by decide +kernel)
theorem f117_28 {xs : List Int32} : xtF (xTa xs) 117 28 = some (10, 2, 3) := (show xlk xF0 117 28 = some (10, 2, 3) by decide +kernel)
theorem f117_49 {xs : List Int32} : xtF (xTa xs) 117 49 = some (10, 5, 0) := (show xlk xF0 117 49 = some (10, 5, 0) by decide +kernel)
theorem f117_118 {xs : List Int32} : xtF (xTa xs) 117 118 = some (7, 5, 2) := (show xlk xF0 117 118 = some (7, 5, 2) by decide +kernel)
theorem f117_125 {xs : List Int32} : xtF (xTa xs) 117 125 = some (7, 6, 2) := (show xlk xF0 117 125 = some (7, 6, 2) by decide +kernel)
theorem f118_49 {xs : List Int32} : xtF (xTa xs) 118 49 = some (10, 5, 0) := (show xlk xF0 118 49 = some (10, 5, 0) by decide +kernel)
theorem f118_128 {xs : List Int32} : xtF (xTa xs) 118 128 = some (2, 7, 2) := (show xlk xF0 118 128 = some (2, 7, 2) by decide +kernel)
theorem f118_131 {xs : List Int32} : xtF (xTa xs) 118 131 = some (2, 8, 2) := (show xlk xF0 118 131 = some (2, 8, 2) by decide +kernel)
theorem f118_135 {xs : List Int32} : xtF (xTa xs) 118 135 = some (1, 3, 2) := (show xlk xF0 118 135 = some (1, 3, 2) by decide +kernel)
theorem f119_28 {xs : List Int32} : xtF (xTa xs) 119 28 = some (10, 2, 3) := (show xlk xF0 119 28 = some (10, 2, 3) by decide +kernel)
theorem f119_118 {xs : List Int32} : xtF (xTa xs) 119 118 = some (7, 5, 2) := (show xlk xF0 119 118 = some (7, 5, 2) by decide +kernel)
theorem f120_21 {xs : List Int32} : xtF (xTa xs) 120 21 = some (10, 1, 3) := (show xlk xF0 120 21 = some (10, 1, 3) by decide +kernel)
theorem f120_131 {xs : List Int32} : xtF (xTa xs) 120 131 = some (2, 8, 2) := (show xlk xF0 120 131 = some (2, 8, 2) by decide +kernel)
theorem f120_135 {xs : List Int32} : xtF (xTa xs) 120 135 = some (1, 3, 2) := (show xlk xF0 120 135 = some (1, 3, 2) by decide +kernel)
theorem f121_21 {xs : List Int32} : xtF (xTa xs) 121 21 = some (10, 1, 3) := (show xlk xF0 121 21 = some (10, 1, 3) by decide +kernel)
theorem f121_135 {xs : List Int32} : xtF (xTa xs) 121 135 = some (1, 3, 2) := (show xlk xF0 121 135 = some (1, 3, 2) by decide +kernel)
theorem f121_142 {xs : List Int32} : xtF (xTa xs) 121 142 = some (2, 2, 4) := (show xlk xF0 121 142 = some (2, 2, 4) by decide +kernel)
theorem f121_149 {xs : List Int32} : xtF (xTa xs) 121 149 = some (2, 3, 4) := (show xlk xF0 121 149 = some (2, 3, 4) by decide +kernel)
theorem f121_152 {xs : List Int32} : xtF (xTa xs) 121 152 = some (2, 6, 2) := (show xlk xF0 121 152 = some (2, 6, 2) by decide +kernel)
theorem f121_155 {xs : List Int32} : xtF (xTa xs) 121 155 = some (2, 4, 4) := (show xlk xF0 121 155 = some (2, 4, 4) by decide +kernel)
theorem f121_165 {xs : List Int32} : xtF (xTa xs) 121 165 = some (1, 4, 2) := (show xlk xF0 121 165 = some (1, 4, 2) by decide +kernel)
theorem f122_176 {xs : List Int32} : xtF (xTa xs) 122 176 = some (0, 1, 2) := (show xlk xF0 122 176 = some (0, 1, 2) by decide +kernel)
theorem f122_181 {xs : List Int32} : xtF (xTa xs) 122 181 = some (0, 3, 2) := (show xlk xF0 122 181 = some (0, 3, 2) by decide +kernel)
theorem f122_184 {xs : List Int32} : xtF (xTa xs) 122 184 = some (0, 5, 2) := (show xlk xF0 122 184 = some (0, 5, 2) by decide +kernel)
theorem f122_185 {xs : List Int32} : xtF (xTa xs) 122 185 = some (0, 2, 2) := (show xlk xF0 122 185 = some (0, 2, 2) by decide +kernel)
theorem f123_21 {xs : List Int32} : xtF (xTa xs) 123 21 = some (10, 1, 3) := (show xlk xF0 123 21 = some (10, 1, 3) by decide +kernel)
theorem f123_190 {xs : List Int32} : xtF (xTa xs) 123 190 = some (6, 0, 2) := (show xlk xF0 123 190 = some (6, 0, 2) by decide +kernel)
theorem f123_193 {xs : List Int32} : xtF (xTa xs) 123 193 = some (6, 1, 2) := (show xlk xF0 123 193 = some (6, 1, 2) by decide +kernel)
theorem f123_194 {xs : List Int32} : xtF (xTa xs) 123 194 = some (6, 3, 2) := (show xlk xF0 123 194 = some (6, 3, 2) by decide +kernel)
theorem f123_197 {xs : List Int32} : xtF (xTa xs) 123 197 = some (6, 2, 2) := (show xlk xF0 123 197 = some (6, 2, 2) by decide +kernel)
theorem f123_200 {xs : List Int32} : xtF (xTa xs) 123 200 = some (6, 6, 2) := (show xlk xF0 123 200 = some (6, 6, 2) by decide +kernel)
theorem f123_203 {xs : List Int32} : xtF (xTa xs) 123 203 = some (1, 0, 4) := (show xlk xF0 123 203 = some (1, 0, 4) by decide +kernel)
theorem f123_206 {xs : List Int32} : xtF (xTa xs) 123 206 = some (6, 4, 2) := (show xlk xF0 123 206 = some (6, 4, 2) by decide +kernel)
theorem f123_209 {xs : List Int32} : xtF (xTa xs) 123 209 = some (6, 5, 2) := (show xlk xF0 123 209 = some (6, 5, 2) by decide +kernel)
theorem f123_212 {xs : List Int32} : xtF (xTa xs) 123 212 = some (1, 5, 2) := (show xlk xF0 123 212 = some (1, 5, 2) by decide +kernel)
theorem f124_14 {xs : List Int32} : xtF (xTa xs) 124 14 = some (10, 0, 3) := (show xlk xF0 124 14 = some (10, 0, 3) by decide +kernel)
theorem f124_21 {xs : List Int32} : xtF (xTa xs) 124 21 = some (10, 1, 3) := (show xlk xF0 124 21 = some (10, 1, 3) by decide +kernel)
theorem f124_63 {xs : List Int32} : xtF (xTa xs) 124 63 = some (9, 1, 2) := (show xlk xF0 124 63 = some (9, 1, 2) by decide +kernel)
theorem f125_21 {xs : List Int32} : xtF (xTa xs) 125 21 = some (10, 1, 3) := (show xlk xF0 125 21 = some (10, 1, 3) by decide +kernel)
theorem f125_35 {xs : List Int32} : xtF (xTa xs) 125 35 = some (10, 3, 3) := (show xlk xF0 125 35 = some (10, 3, 3) by decide +kernel)
theorem f125_56 {xs : List Int32} : xtF (xTa xs) 125 56 = some (10, 6, 0) := (show xlk xF0 125 56 = some (10, 6, 0) by decide +kernel)
theorem f125_60 {xs : List Int32} : xtF (xTa xs) 125 60 = some (10, 7, 0) := (show xlk xF0 125 60 = some (10, 7, 0) by decide +kernel)
theorem f125_241 {xs : List Int32} : xtF (xTa xs) 125 241 = some (5, 8, 2) := (show xlk xF0 125 241 = some (5, 8, 2) by decide +kernel)
theorem f125_244 {xs : List Int32} : xtF (xTa xs) 125 244 = some (5, 3, 2) := (show xlk xF0 125 244 = some (5, 3, 2) by decide +kernel)
theorem f126_56 {xs : List Int32} : xtF (xTa xs) 126 56 = some (10, 6, 0) := (show xlk xF0 126 56 = some (10, 6, 0) by decide +kernel)
theorem f126_63 {xs : List Int32} : xtF (xTa xs) 126 63 = some (9, 1, 2) := (show xlk xF0 126 63 = some (9, 1, 2) by decide +kernel)
theorem f126_244 {xs : List Int32} : xtF (xTa xs) 126 244 = some (5, 3, 2) := (show xlk xF0 126 244 = some (5, 3, 2) by decide +kernel)
theorem f126_247 {xs : List Int32} : xtF (xTa xs) 126 247 = some (5, 0, 4) := (show xlk xF0 126 247 = some (5, 0, 4) by decide +kernel)
theorem f126_248 {xs : List Int32} : xtF (xTa xs) 126 248 = some (5, 4, 2) := (show xlk xF0 126 248 = some (5, 4, 2) by decide +kernel)
theorem f126_251 {xs : List Int32} : xtF (xTa xs) 126 251 = some (5, 5, 2) := (show xlk xF0 126 251 = some (5, 5, 2) by decide +kernel)
theorem f126_254 {xs : List Int32} : xtF (xTa xs) 126 254 = some (5, 6, 2) := (show xlk xF0 126 254 = some (5, 6, 2) by decide +kernel)
theorem f127_56 {xs : List Int32} : xtF (xTa xs) 127 56 = some (10, 6, 0) := (show xlk xF0 127 56 = some (10, 6, 0) by decide +kernel)
theorem f127_247 {xs : List Int32} : xtF (xTa xs) 127 247 = some (5, 0, 4) := (show xlk xF0 127 247 = some (5, 0, 4) by decide +kernel)
theorem f128_56 {xs : List Int32} : xtF (xTa xs) 128 56 = some (10, 6, 0) := (show xlk xF0 128 56 = some (10, 6, 0) by decide +kernel)
theorem f128_244 {xs : List Int32} : xtF (xTa xs) 128 244 = some (5, 3, 2) := (show xlk xF0 128 244 = some (5, 3, 2) by decide +kernel)
theorem f128_267 {xs : List Int32} : xtF (xTa xs) 128 267 = some (5, 1, 4) := (show xlk xF0 128 267 = some (5, 1, 4) by decide +kernel)
theorem f129_56 {xs : List Int32} : xtF (xTa xs) 129 56 = some (10, 6, 0) := (show xlk xF0 129 56 = some (10, 6, 0) by decide +kernel)
theorem f130_21 {xs : List Int32} : xtF (xTa xs) 130 21 = some (10, 1, 3) := (show xlk xF0 130 21 = some (10, 1, 3) by decide +kernel)
theorem f130_42 {xs : List Int32} : xtF (xTa xs) 130 42 = some (10, 4, 3) := (show xlk xF0 130 42 = some (10, 4, 3) by decide +kernel)
theorem f130_278 {xs : List Int32} : xtF (xTa xs) 130 278 = some (4, 2, 2) := (show xlk xF0 130 278 = some (4, 2, 2) by decide +kernel)
theorem f131_42 {xs : List Int32} : xtF (xTa xs) 131 42 = some (10, 4, 3) := (show xlk xF0 131 42 = some (10, 4, 3) by decide +kernel)
theorem f131_278 {xs : List Int32} : xtF (xTa xs) 131 278 = some (4, 2, 2) := (show xlk xF0 131 278 = some (4, 2, 2) by decide +kernel)
theorem f131_279 {xs : List Int32} : xtF (xTa xs) 131 279 = some (4, 0, 4) := (show xlk xF0 131 279 = some (4, 0, 4) by decide +kernel)
theorem f131_282 {xs : List Int32} : xtF (xTa xs) 131 282 = some (4, 1, 4) := (show xlk xF0 131 282 = some (4, 1, 4) by decide +kernel)
theorem f132_14 {xs : List Int32} : xtF (xTa xs) 132 14 = some (10, 0, 3) := (show xlk xF0 132 14 = some (10, 0, 3) by decide +kernel)
theorem f132_21 {xs : List Int32} : xtF (xTa xs) 132 21 = some (10, 1, 3) := (show xlk xF0 132 21 = some (10, 1, 3) by decide +kernel)
theorem f132_63 {xs : List Int32} : xtF (xTa xs) 132 63 = some (9, 1, 2) := (show xlk xF0 132 63 = some (9, 1, 2) by decide +kernel)
theorem f132_285 {xs : List Int32} : xtF (xTa xs) 132 285 = some (8, 1, 2) := (show xlk xF0 132 285 = some (8, 1, 2) by decide +kernel)
theorem f133_21 {xs : List Int32} : xtF (xTa xs) 133 21 = some (10, 1, 3) := (show xlk xF0 133 21 = some (10, 1, 3) by decide +kernel)
theorem f134_293 {xs : List Int32} : xtF (xTa xs) 134 293 = some (2, 0, 4) := (show xlk xF0 134 293 = some (2, 0, 4) by decide +kernel)
theorem f140_9 {xs : List Int32} : xtF (xTa xs) 140 9 = some (11, 0, 1) := (show xlk xF0 140 9 = some (11, 0, 1) by decide +kernel)
theorem f140_13 {xs : List Int32} : xtF (xTa xs) 140 13 = some (11, 3, 1) := (show xlk xF0 140 13 = some (11, 3, 1) by decide +kernel)
theorem f140_17 {xs : List Int32} : xtF (xTa xs) 140 17 = some (11, 4, 1) := (show xlk xF0 140 17 = some (11, 4, 1) by decide +kernel)
theorem f140_20 {xs : List Int32} : xtF (xTa xs) 140 20 = some (11, 5, 1) := (show xlk xF0 140 20 = some (11, 5, 1) by decide +kernel)
theorem f140_23 {xs : List Int32} : xtF (xTa xs) 140 23 = some (11, 6, 1) := (show xlk xF0 140 23 = some (11, 6, 1) by decide +kernel)
theorem f140_26 {xs : List Int32} : xtF (xTa xs) 140 26 = some (11, 7, 1) := (show xlk xF0 140 26 = some (11, 7, 1) by decide +kernel)
theorem f140_29 {xs : List Int32} : xtF (xTa xs) 140 29 = some (11, 8, 1) := (show xlk xF0 140 29 = some (11, 8, 1) by decide +kernel)
theorem f140_32 {xs : List Int32} : xtF (xTa xs) 140 32 = some (11, 9, 1) := (show xlk xF0 140 32 = some (11, 9, 1) by decide +kernel)
theorem f140_35 {xs : List Int32} : xtF (xTa xs) 140 35 = some (11, 10, 1) := (show xlk xF0 140 35 = some (11, 10, 1) by decide +kernel)
theorem f140_38 {xs : List Int32} : xtF (xTa xs) 140 38 = some (11, 11, 1) := (show xlk xF0 140 38 = some (11, 11, 1) by decide +kernel)
theorem f140_41 {xs : List Int32} : xtF (xTa xs) 140 41 = some (11, 12, 1) := (show xlk xF0 140 41 = some (11, 12, 1) by decide +kernel)
theorem f140_44 {xs : List Int32} : xtF (xTa xs) 140 44 = some (11, 13, 1) := (show xlk xF0 140 44 = some (11, 13, 1) by decide +kernel)
theorem f140_47 {xs : List Int32} : xtF (xTa xs) 140 47 = some (11, 14, 1) := (show xlk xF0 140 47 = some (11, 14, 1) by decide +kernel)
theorem f140_50 {xs : List Int32} : xtF (xTa xs) 140 50 = some (11, 15, 1) := (show xlk xF0 140 50 = some (11, 15, 1) by decide +kernel)
theorem f140_53 {xs : List Int32} : xtF (xTa xs) 140 53 = some (11, 16, 1) := (show xlk xF0 140 53 = some (11, 16, 1) by decide +kernel)
theorem f140_56 {xs : List Int32} : xtF (xTa xs) 140 56 = some (11, 17, 1) := (show xlk xF0 140 56 = some (11, 17, 1) by decide +kernel)
theorem f140_59 {xs : List Int32} : xtF (xTa xs) 140 59 = some (11, 18, 1) := (show xlk xF0 140 59 = some (11, 18, 1) by decide +kernel)
theorem f140_62 {xs : List Int32} : xtF (xTa xs) 140 62 = some (11, 19, 1) := (show xlk xF0 140 62 = some (11, 19, 1) by decide +kernel)
theorem f140_65 {xs : List Int32} : xtF (xTa xs) 140 65 = some (11, 20, 1) := (show xlk xF0 140 65 = some (11, 20, 1) by decide +kernel)
theorem f140_68 {xs : List Int32} : xtF (xTa xs) 140 68 = some (11, 21, 1) := (show xlk xF0 140 68 = some (11, 21, 1) by decide +kernel)
theorem f140_71 {xs : List Int32} : xtF (xTa xs) 140 71 = some (11, 22, 1) := (show xlk xF0 140 71 = some (11, 22, 1) by decide +kernel)
theorem f140_74 {xs : List Int32} : xtF (xTa xs) 140 74 = some (11, 23, 1) := (show xlk xF0 140 74 = some (11, 23, 1) by decide +kernel)
theorem f140_77 {xs : List Int32} : xtF (xTa xs) 140 77 = some (11, 24, 1) := (show xlk xF0 140 77 = some (11, 24, 1) by decide +kernel)
theorem f140_80 {xs : List Int32} : xtF (xTa xs) 140 80 = some (11, 25, 1) := (show xlk xF0 140 80 = some (11, 25, 1) by decide +kernel)
theorem f140_83 {xs : List Int32} : xtF (xTa xs) 140 83 = some (11, 26, 1) := (show xlk xF0 140 83 = some (11, 26, 1) by decide +kernel)
theorem f140_86 {xs : List Int32} : xtF (xTa xs) 140 86 = some (11, 27, 1) := (show xlk xF0 140 86 = some (11, 27, 1) by decide +kernel)
theorem f140_89 {xs : List Int32} : xtF (xTa xs) 140 89 = some (11, 28, 1) := (show xlk xF0 140 89 = some (11, 28, 1) by decide +kernel)
theorem f140_92 {xs : List Int32} : xtF (xTa xs) 140 92 = some (11, 29, 1) := (show xlk xF0 140 92 = some (11, 29, 1) by decide +kernel)
theorem f140_95 {xs : List Int32} : xtF (xTa xs) 140 95 = some (11, 30, 1) := (show xlk xF0 140 95 = some (11, 30, 1) by decide +kernel)
theorem f140_98 {xs : List Int32} : xtF (xTa xs) 140 98 = some (11, 44, 1) := (show xlk xF0 140 98 = some (11, 44, 1) by decide +kernel)
theorem f140_101 {xs : List Int32} : xtF (xTa xs) 140 101 = some (11, 46, 1) := (show xlk xF0 140 101 = some (11, 46, 1) by decide +kernel)
theorem f140_104 {xs : List Int32} : xtF (xTa xs) 140 104 = some (11, 50, 1) := (show xlk xF0 140 104 = some (11, 50, 1) by decide +kernel)
theorem f140_107 {xs : List Int32} : xtF (xTa xs) 140 107 = some (11, 52, 1) := (show xlk xF0 140 107 = some (11, 52, 1) by decide +kernel)
theorem f140_110 {xs : List Int32} : xtF (xTa xs) 140 110 = some (11, 54, 1) := (show xlk xF0 140 110 = some (11, 54, 1) by decide +kernel)
theorem f140_113 {xs : List Int32} : xtF (xTa xs) 140 113 = some (11, 58, 1) := (show xlk xF0 140 113 = some (11, 58, 1) by decide +kernel)
theorem f140_116 {xs : List Int32} : xtF (xTa xs) 140 116 = some (11, 60, 1) := (show xlk xF0 140 116 = some (11, 60, 1) by decide +kernel)
theorem f140_119 {xs : List Int32} : xtF (xTa xs) 140 119 = some (11, 62, 1) := (show xlk xF0 140 119 = some (11, 62, 1) by decide +kernel)
theorem f140_122 {xs : List Int32} : xtF (xTa xs) 140 122 = some (11, 64, 1) := (show xlk xF0 140 122 = some (11, 64, 1) by decide +kernel)
theorem f140_125 {xs : List Int32} : xtF (xTa xs) 140 125 = some (11, 65, 1) := (show xlk xF0 140 125 = some (11, 65, 1) by decide +kernel)
theorem f140_128 {xs : List Int32} : xtF (xTa xs) 140 128 = some (11, 66, 1) := (show xlk xF0 140 128 = some (11, 66, 1) by decide +kernel)
theorem f140_131 {xs : List Int32} : xtF (xTa xs) 140 131 = some (11, 67, 1) := (show xlk xF0 140 131 = some (11, 67, 1) by decide +kernel)
theorem f140_134 {xs : List Int32} : xtF (xTa xs) 140 134 = some (11, 69, 1) := (show xlk xF0 140 134 = some (11, 69, 1) by decide +kernel)
theorem f140_137 {xs : List Int32} : xtF (xTa xs) 140 137 = some (11, 70, 1) := (show xlk xF0 140 137 = some (11, 70, 1) by decide +kernel)
theorem f140_140 {xs : List Int32} : xtF (xTa xs) 140 140 = some (11, 71, 1) := (show xlk xF0 140 140 = some (11, 71, 1) by decide +kernel)
theorem f140_143 {xs : List Int32} : xtF (xTa xs) 140 143 = some (11, 72, 1) := (show xlk xF0 140 143 = some (11, 72, 1) by decide +kernel)
theorem f142_9 {xs : List Int32} : xtF (xTa xs) 142 9 = some (11, 0, 3) := (show xlk xF0 142 9 = some (11, 0, 3) by decide +kernel)
theorem f142_146 {xs : List Int32} : xtF (xTa xs) 142 146 = some (11, 1, 0) := (show xlk xF0 142 146 = some (11, 1, 0) by decide +kernel)
theorem f143_146 {xs : List Int32} : xtF (xTa xs) 143 146 = some (11, 1, 0) := (show xlk xF0 143 146 = some (11, 1, 0) by decide +kernel)
theorem f144_146 {xs : List Int32} : xtF (xTa xs) 144 146 = some (11, 1, 0) := (show xlk xF0 144 146 = some (11, 1, 0) by decide +kernel)
theorem f148_158 {xs : List Int32} : xtF (xTa xs) 148 158 = some (11, 2, 0) := (show xlk xF0 148 158 = some (11, 2, 0) by decide +kernel)
theorem f149_13 {xs : List Int32} : xtF (xTa xs) 149 13 = some (11, 3, 3) := (show xlk xF0 149 13 = some (11, 3, 3) by decide +kernel)
theorem f150_9 {xs : List Int32} : xtF (xTa xs) 150 9 = some (11, 0, 3) := (show xlk xF0 150 9 = some (11, 0, 3) by decide +kernel)
theorem f150_146 {xs : List Int32} : xtF (xTa xs) 150 146 = some (11, 1, 0) := (show xlk xF0 150 146 = some (11, 1, 0) by decide +kernel)
theorem f151_9 {xs : List Int32} : xtF (xTa xs) 151 9 = some (11, 0, 3) := (show xlk xF0 151 9 = some (11, 0, 3) by decide +kernel)
theorem f151_146 {xs : List Int32} : xtF (xTa xs) 151 146 = some (11, 1, 0) := (show xlk xF0 151 146 = some (11, 1, 0) by decide +kernel)
theorem f152_9 {xs : List Int32} : xtF (xTa xs) 152 9 = some (11, 0, 3) := (show xlk xF0 152 9 = some (11, 0, 3) by decide +kernel)
theorem f152_13 {xs : List Int32} : xtF (xTa xs) 152 13 = some (11, 3, 3) := (show xlk xF0 152 13 = some (11, 3, 3) by decide +kernel)
theorem f152_17 {xs : List Int32} : xtF (xTa xs) 152 17 = some (11, 4, 3) := (show xlk xF0 152 17 = some (11, 4, 3) by decide +kernel)
theorem f152_20 {xs : List Int32} : xtF (xTa xs) 152 20 = some (11, 5, 3) := (show xlk xF0 152 20 = some (11, 5, 3) by decide +kernel)
theorem f152_23 {xs : List Int32} : xtF (xTa xs) 152 23 = some (11, 6, 3) := (show xlk xF0 152 23 = some (11, 6, 3) by decide +kernel)
theorem f152_26 {xs : List Int32} : xtF (xTa xs) 152 26 = some (11, 7, 3) := (show xlk xF0 152 26 = some (11, 7, 3) by decide +kernel)
theorem f152_29 {xs : List Int32} : xtF (xTa xs) 152 29 = some (11, 8, 3) := (show xlk xF0 152 29 = some (11, 8, 3) by decide +kernel)
theorem f152_32 {xs : List Int32} : xtF (xTa xs) 152 32 = some (11, 9, 3) := (show xlk xF0 152 32 = some (11, 9, 3) by decide +kernel)
theorem f152_44 {xs : List Int32} : xtF (xTa xs) 152 44 = some (11, 13, 3) := (show xlk xF0 152 44 = some (11, 13, 3) by decide +kernel)
theorem f152_47 {xs : List Int32} : xtF (xTa xs) 152 47 = some (11, 14, 3) := (show xlk xF0 152 47 = some (11, 14, 3) by decide +kernel)
theorem f152_50 {xs : List Int32} : xtF (xTa xs) 152 50 = some (11, 15, 3) := (show xlk xF0 152 50 = some (11, 15, 3) by decide +kernel)
theorem f152_146 {xs : List Int32} : xtF (xTa xs) 152 146 = some (11, 1, 0) := (show xlk xF0 152 146 = some (11, 1, 0) by decide +kernel)
theorem f152_158 {xs : List Int32} : xtF (xTa xs) 152 158 = some (11, 2, 0) := (show xlk xF0 152 158 = some (11, 2, 0) by decide +kernel)
theorem f153_13 {xs : List Int32} : xtF (xTa xs) 153 13 = some (11, 3, 3) := (show xlk xF0 153 13 = some (11, 3, 3) by decide +kernel)
theorem f153_26 {xs : List Int32} : xtF (xTa xs) 153 26 = some (11, 7, 3) := (show xlk xF0 153 26 = some (11, 7, 3) by decide +kernel)
theorem f153_29 {xs : List Int32} : xtF (xTa xs) 153 29 = some (11, 8, 3) := (show xlk xF0 153 29 = some (11, 8, 3) by decide +kernel)
theorem f153_146 {xs : List Int32} : xtF (xTa xs) 153 146 = some (11, 1, 0) := (show xlk xF0 153 146 = some (11, 1, 0) by decide +kernel)
theorem f153_158 {xs : List Int32} : xtF (xTa xs) 153 158 = some (11, 2, 0) := (show xlk xF0 153 158 = some (11, 2, 0) by decide +kernel)
theorem f154_13 {xs : List Int32} : xtF (xTa xs) 154 13 = some (11, 3, 3) := (show xlk xF0 154 13 = some (11, 3, 3) by decide +kernel)
theorem f154_17 {xs : List Int32} : xtF (xTa xs) 154 17 = some (11, 4, 3) := (show xlk xF0 154 17 = some (11, 4, 3) by decide +kernel)
theorem f154_26 {xs : List Int32} : xtF (xTa xs) 154 26 = some (11, 7, 3) := (show xlk xF0 154 26 = some (11, 7, 3) by decide +kernel)
theorem f154_29 {xs : List Int32} : xtF (xTa xs) 154 29 = some (11, 8, 3) := (show xlk xF0 154 29 = some (11, 8, 3) by decide +kernel)
theorem f154_146 {xs : List Int32} : xtF (xTa xs) 154 146 = some (11, 1, 0) := (show xlk xF0 154 146 = some (11, 1, 0) by decide +kernel)
theorem f154_158 {xs : List Int32} : xtF (xTa xs) 154 158 = some (11, 2, 0) := (show xlk xF0 154 158 = some (11, 2, 0) by decide +kernel)
theorem f155_9 {xs : List Int32} : xtF (xTa xs) 155 9 = some (11, 0, 3) := (show xlk xF0 155 9 = some (11, 0, 3) by decide +kernel)
theorem f155_32 {xs : List Int32} : xtF (xTa xs) 155 32 = some (11, 9, 3) := (show xlk xF0 155 32 = some (11, 9, 3) by decide +kernel)
theorem f155_35 {xs : List Int32} : xtF (xTa xs) 155 35 = some (11, 10, 3) := (show xlk xF0 155 35 = some (11, 10, 3) by decide +kernel)
theorem f155_38 {xs : List Int32} : xtF (xTa xs) 155 38 = some (11, 11, 3) := (show xlk xF0 155 38 = some (11, 11, 3) by decide +kernel)
theorem f155_146 {xs : List Int32} : xtF (xTa xs) 155 146 = some (11, 1, 0) := (show xlk xF0 155 146 = some (11, 1, 0) by decide +kernel)
theorem f156_13 {xs : List Int32} : xtF (xTa xs) 156 13 = some (11, 3, 3) := (show xlk xF0 156 13 = some (11, 3, 3) by decide +kernel)
theorem f156_17 {xs : List Int32} : xtF (xTa xs) 156 17 = some (11, 4, 3) := (show xlk xF0 156 17 = some (11, 4, 3) by decide +kernel)
theorem f156_20 {xs : List Int32} : xtF (xTa xs) 156 20 = some (11, 5, 3) := (show xlk xF0 156 20 = some (11, 5, 3) by decide +kernel)
theorem f156_26 {xs : List Int32} : xtF (xTa xs) 156 26 = some (11, 7, 3) := (show xlk xF0 156 26 = some (11, 7, 3) by decide +kernel)
theorem f156_29 {xs : List Int32} : xtF (xTa xs) 156 29 = some (11, 8, 3) := (show xlk xF0 156 29 = some (11, 8, 3) by decide +kernel)
theorem f157_13 {xs : List Int32} : xtF (xTa xs) 157 13 = some (11, 3, 3) := (show xlk xF0 157 13 = some (11, 3, 3) by decide +kernel)
theorem f157_17 {xs : List Int32} : xtF (xTa xs) 157 17 = some (11, 4, 3) := (show xlk xF0 157 17 = some (11, 4, 3) by decide +kernel)
theorem f157_20 {xs : List Int32} : xtF (xTa xs) 157 20 = some (11, 5, 3) := (show xlk xF0 157 20 = some (11, 5, 3) by decide +kernel)
theorem f157_158 {xs : List Int32} : xtF (xTa xs) 157 158 = some (11, 2, 0) := (show xlk xF0 157 158 = some (11, 2, 0) by decide +kernel)
theorem f158_26 {xs : List Int32} : xtF (xTa xs) 158 26 = some (11, 7, 3) := (show xlk xF0 158 26 = some (11, 7, 3) by decide +kernel)
theorem f158_29 {xs : List Int32} : xtF (xTa xs) 158 29 = some (11, 8, 3) := (show xlk xF0 158 29 = some (11, 8, 3) by decide +kernel)
theorem f159_13 {xs : List Int32} : xtF (xTa xs) 159 13 = some (11, 3, 3) := (show xlk xF0 159 13 = some (11, 3, 3) by decide +kernel)
theorem f159_158 {xs : List Int32} : xtF (xTa xs) 159 158 = some (11, 2, 0) := (show xlk xF0 159 158 = some (11, 2, 0) by decide +kernel)
theorem f160_44 {xs : List Int32} : xtF (xTa xs) 160 44 = some (11, 13, 3) := (show xlk xF0 160 44 = some (11, 13, 3) by decide +kernel)
theorem f164_13 {xs : List Int32} : xtF (xTa xs) 164 13 = some (11, 3, 3) := (show xlk xF0 164 13 = some (11, 3, 3) by decide +kernel)
theorem f164_17 {xs : List Int32} : xtF (xTa xs) 164 17 = some (11, 4, 3) := (show xlk xF0 164 17 = some (11, 4, 3) by decide +kernel)
theorem f165_9 {xs : List Int32} : xtF (xTa xs) 165 9 = some (11, 0, 3) := (show xlk xF0 165 9 = some (11, 0, 3) by decide +kernel)
theorem f165_146 {xs : List Int32} : xtF (xTa xs) 165 146 = some (11, 1, 0) := (show xlk xF0 165 146 = some (11, 1, 0) by decide +kernel)
theorem f166_218 {xs : List Int32} : xtF (xTa xs) 166 218 = some (11, 31, 0) := (show xlk xF0 166 218 = some (11, 31, 0) by decide +kernel)
theorem f166_221 {xs : List Int32} : xtF (xTa xs) 166 221 = some (11, 32, 0) := (show xlk xF0 166 221 = some (11, 32, 0) by decide +kernel)
theorem f167_41 {xs : List Int32} : xtF (xTa xs) 167 41 = some (11, 12, 3) := (show xlk xF0 167 41 = some (11, 12, 3) by decide +kernel)
theorem f168_224 {xs : List Int32} : xtF (xTa xs) 168 224 = some (11, 37, 0) := (show xlk xF0 168 224 = some (11, 37, 0) by decide +kernel)
theorem f169_224 {xs : List Int32} : xtF (xTa xs) 169 224 = some (11, 37, 0) := (show xlk xF0 169 224 = some (11, 37, 0) by decide +kernel)
theorem f170_224 {xs : List Int32} : xtF (xTa xs) 170 224 = some (11, 37, 0) := (show xlk xF0 170 224 = some (11, 37, 0) by decide +kernel)
theorem f171_41 {xs : List Int32} : xtF (xTa xs) 171 41 = some (11, 12, 3) := (show xlk xF0 171 41 = some (11, 12, 3) by decide +kernel)
theorem f171_224 {xs : List Int32} : xtF (xTa xs) 171 224 = some (11, 37, 0) := (show xlk xF0 171 224 = some (11, 37, 0) by decide +kernel)
theorem f171_238 {xs : List Int32} : xtF (xTa xs) 171 238 = some (11, 40, 0) := (show xlk xF0 171 238 = some (11, 40, 0) by decide +kernel)
theorem f171_241 {xs : List Int32} : xtF (xTa xs) 171 241 = some (11, 41, 0) := (show xlk xF0 171 241 = some (11, 41, 0) by decide +kernel)
theorem f171_244 {xs : List Int32} : xtF (xTa xs) 171 244 = some (11, 39, 0) := (show xlk xF0 171 244 = some (11, 39, 0) by decide +kernel)
theorem f171_249 {xs : List Int32} : xtF (xTa xs) 171 249 = some (11, 42, 0) := (show xlk xF0 171 249 = some (11, 42, 0) by decide +kernel)
theorem f171_252 {xs : List Int32} : xtF (xTa xs) 171 252 = some (11, 43, 0) := (show xlk xF0 171 252 = some (11, 43, 0) by decide +kernel)
theorem f173_47 {xs : List Int32} : xtF (xTa xs) 173 47 = some (11, 14, 3) := (show xlk xF0 173 47 = some (11, 14, 3) by decide +kernel)
theorem f173_50 {xs : List Int32} : xtF (xTa xs) 173 50 = some (11, 15, 3) := (show xlk xF0 173 50 = some (11, 15, 3) by decide +kernel)
theorem f173_53 {xs : List Int32} : xtF (xTa xs) 173 53 = some (11, 16, 3) := (show xlk xF0 173 53 = some (11, 16, 3) by decide +kernel)
theorem f173_56 {xs : List Int32} : xtF (xTa xs) 173 56 = some (11, 17, 3) := (show xlk xF0 173 56 = some (11, 17, 3) by decide +kernel)
theorem f173_59 {xs : List Int32} : xtF (xTa xs) 173 59 = some (11, 18, 3) := (show xlk xF0 173 59 = some (11, 18, 3) by decide +kernel)
theorem f173_62 {xs : List Int32} : xtF (xTa xs) 173 62 = some (11, 19, 3) := (show xlk xF0 173 62 = some (11, 19, 3) by decide +kernel)
theorem f173_65 {xs : List Int32} : xtF (xTa xs) 173 65 = some (11, 20, 3) := (show xlk xF0 173 65 = some (11, 20, 3) by decide +kernel)
theorem f173_68 {xs : List Int32} : xtF (xTa xs) 173 68 = some (11, 21, 3) := (show xlk xF0 173 68 = some (11, 21, 3) by decide +kernel)
theorem f173_71 {xs : List Int32} : xtF (xTa xs) 173 71 = some (11, 22, 3) := (show xlk xF0 173 71 = some (11, 22, 3) by decide +kernel)
theorem f173_74 {xs : List Int32} : xtF (xTa xs) 173 74 = some (11, 23, 3) := (show xlk xF0 173 74 = some (11, 23, 3) by decide +kernel)
theorem f173_261 {xs : List Int32} : xtF (xTa xs) 173 261 = some (11, 38, 0) := (show xlk xF0 173 261 = some (11, 38, 0) by decide +kernel)
theorem f174_47 {xs : List Int32} : xtF (xTa xs) 174 47 = some (11, 14, 3) := (show xlk xF0 174 47 = some (11, 14, 3) by decide +kernel)
theorem f175_50 {xs : List Int32} : xtF (xTa xs) 175 50 = some (11, 15, 3) := (show xlk xF0 175 50 = some (11, 15, 3) by decide +kernel)
theorem f175_218 {xs : List Int32} : xtF (xTa xs) 175 218 = some (11, 31, 0) := (show xlk xF0 175 218 = some (11, 31, 0) by decide +kernel)
theorem f175_224 {xs : List Int32} : xtF (xTa xs) 175 224 = some (11, 37, 0) := (show xlk xF0 175 224 = some (11, 37, 0) by decide +kernel)
theorem f175_261 {xs : List Int32} : xtF (xTa xs) 175 261 = some (11, 38, 0) := (show xlk xF0 175 261 = some (11, 38, 0) by decide +kernel)
theorem f176_50 {xs : List Int32} : xtF (xTa xs) 176 50 = some (11, 15, 3) := (show xlk xF0 176 50 = some (11, 15, 3) by decide +kernel)
theorem f176_62 {xs : List Int32} : xtF (xTa xs) 176 62 = some (11, 19, 3) := (show xlk xF0 176 62 = some (11, 19, 3) by decide +kernel)
theorem f176_77 {xs : List Int32} : xtF (xTa xs) 176 77 = some (11, 24, 3) := (show xlk xF0 176 77 = some (11, 24, 3) by decide +kernel)
theorem f176_80 {xs : List Int32} : xtF (xTa xs) 176 80 = some (11, 25, 3) := (show xlk xF0 176 80 = some (11, 25, 3) by decide +kernel)
theorem f176_83 {xs : List Int32} : xtF (xTa xs) 176 83 = some (11, 26, 3) := (show xlk xF0 176 83 = some (11, 26, 3) by decide +kernel)
theorem f176_86 {xs : List Int32} : xtF (xTa xs) 176 86 = some (11, 27, 3) := (show xlk xF0 176 86 = some (11, 27, 3) by decide +kernel)
theorem f176_89 {xs : List Int32} : xtF (xTa xs) 176 89 = some (11, 28, 3) := (show xlk xF0 176 89 = some (11, 28, 3) by decide +kernel)
theorem f176_92 {xs : List Int32} : xtF (xTa xs) 176 92 = some (11, 29, 3) := (show xlk xF0 176 92 = some (11, 29, 3) by decide +kernel)
theorem f176_95 {xs : List Int32} : xtF (xTa xs) 176 95 = some (11, 30, 3) := (show xlk xF0 176 95 = some (11, 30, 3) by decide +kernel)
theorem f176_224 {xs : List Int32} : xtF (xTa xs) 176 224 = some (11, 37, 0) := (show xlk xF0 176 224 = some (11, 37, 0) by decide +kernel)
theorem f176_238 {xs : List Int32} : xtF (xTa xs) 176 238 = some (11, 40, 0) := (show xlk xF0 176 238 = some (11, 40, 0) by decide +kernel)
theorem f176_241 {xs : List Int32} : xtF (xTa xs) 176 241 = some (11, 41, 0) := (show xlk xF0 176 241 = some (11, 41, 0) by decide +kernel)
theorem f176_244 {xs : List Int32} : xtF (xTa xs) 176 244 = some (11, 39, 0) := (show xlk xF0 176 244 = some (11, 39, 0) by decide +kernel)
theorem f176_249 {xs : List Int32} : xtF (xTa xs) 176 249 = some (11, 42, 0) := (show xlk xF0 176 249 = some (11, 42, 0) by decide +kernel)
theorem f176_252 {xs : List Int32} : xtF (xTa xs) 176 252 = some (11, 43, 0) := (show xlk xF0 176 252 = some (11, 43, 0) by decide +kernel)
theorem f176_261 {xs : List Int32} : xtF (xTa xs) 176 261 = some (11, 38, 0) := (show xlk xF0 176 261 = some (11, 38, 0) by decide +kernel)
theorem f177_47 {xs : List Int32} : xtF (xTa xs) 177 47 = some (11, 14, 3) := (show xlk xF0 177 47 = some (11, 14, 3) by decide +kernel)
theorem f177_50 {xs : List Int32} : xtF (xTa xs) 177 50 = some (11, 15, 3) := (show xlk xF0 177 50 = some (11, 15, 3) by decide +kernel)
theorem f177_218 {xs : List Int32} : xtF (xTa xs) 177 218 = some (11, 31, 0) := (show xlk xF0 177 218 = some (11, 31, 0) by decide +kernel)
theorem f177_224 {xs : List Int32} : xtF (xTa xs) 177 224 = some (11, 37, 0) := (show xlk xF0 177 224 = some (11, 37, 0) by decide +kernel)
theorem f177_278 {xs : List Int32} : xtF (xTa xs) 177 278 = some (11, 35, 0) := (show xlk xF0 177 278 = some (11, 35, 0) by decide +kernel)
theorem f177_282 {xs : List Int32} : xtF (xTa xs) 177 282 = some (11, 36, 0) := (show xlk xF0 177 282 = some (11, 36, 0) by decide +kernel)
theorem f179_224 {xs : List Int32} : xtF (xTa xs) 179 224 = some (11, 37, 0) := (show xlk xF0 179 224 = some (11, 37, 0) by decide +kernel)
theorem f180_47 {xs : List Int32} : xtF (xTa xs) 180 47 = some (11, 14, 3) := (show xlk xF0 180 47 = some (11, 14, 3) by decide +kernel)
theorem f180_53 {xs : List Int32} : xtF (xTa xs) 180 53 = some (11, 16, 3) := (show xlk xF0 180 53 = some (11, 16, 3) by decide +kernel)
theorem f180_56 {xs : List Int32} : xtF (xTa xs) 180 56 = some (11, 17, 3) := (show xlk xF0 180 56 = some (11, 17, 3) by decide +kernel)
theorem f180_74 {xs : List Int32} : xtF (xTa xs) 180 74 = some (11, 23, 3) := (show xlk xF0 180 74 = some (11, 23, 3) by decide +kernel)
theorem f180_278 {xs : List Int32} : xtF (xTa xs) 180 278 = some (11, 35, 0) := (show xlk xF0 180 278 = some (11, 35, 0) by decide +kernel)
theorem f180_282 {xs : List Int32} : xtF (xTa xs) 180 282 = some (11, 36, 0) := (show xlk xF0 180 282 = some (11, 36, 0) by decide +kernel)
theorem f181_47 {xs : List Int32} : xtF (xTa xs) 181 47 = some (11, 14, 3) := (show xlk xF0 181 47 = some (11, 14, 3) by decide +kernel)
theorem f181_53 {xs : List Int32} : xtF (xTa xs) 181 53 = some (11, 16, 3) := (show xlk xF0 181 53 = some (11, 16, 3) by decide +kernel)
theorem f181_278 {xs : List Int32} : xtF (xTa xs) 181 278 = some (11, 35, 0) := (show xlk xF0 181 278 = some (11, 35, 0) by decide +kernel)
theorem f181_282 {xs : List Int32} : xtF (xTa xs) 181 282 = some (11, 36, 0) := (show xlk xF0 181 282 = some (11, 36, 0) by decide +kernel)
theorem f181_312 {xs : List Int32} : xtF (xTa xs) 181 312 = some (11, 34, 0) := (show xlk xF0 181 312 = some (11, 34, 0) by decide +kernel)
theorem f182_224 {xs : List Int32} : xtF (xTa xs) 182 224 = some (11, 37, 0) := (show xlk xF0 182 224 = some (11, 37, 0) by decide +kernel)
theorem f184_47 {xs : List Int32} : xtF (xTa xs) 184 47 = some (11, 14, 3) := (show xlk xF0 184 47 = some (11, 14, 3) by decide +kernel)
theorem f184_53 {xs : List Int32} : xtF (xTa xs) 184 53 = some (11, 16, 3) := (show xlk xF0 184 53 = some (11, 16, 3) by decide +kernel)
theorem f185_47 {xs : List Int32} : xtF (xTa xs) 185 47 = some (11, 14, 3) := (show xlk xF0 185 47 = some (11, 14, 3) by decide +kernel)
theorem f185_53 {xs : List Int32} : xtF (xTa xs) 185 53 = some (11, 16, 3) := (show xlk xF0 185 53 = some (11, 16, 3) by decide +kernel)
theorem f185_68 {xs : List Int32} : xtF (xTa xs) 185 68 = some (11, 21, 3) := (show xlk xF0 185 68 = some (11, 21, 3) by decide +kernel)
theorem f185_71 {xs : List Int32} : xtF (xTa xs) 185 71 = some (11, 22, 3) := (show xlk xF0 185 71 = some (11, 22, 3) by decide +kernel)
theorem f186_41 {xs : List Int32} : xtF (xTa xs) 186 41 = some (11, 12, 3) := (show xlk xF0 186 41 = some (11, 12, 3) by decide +kernel)
theorem f187_47 {xs : List Int32} : xtF (xTa xs) 187 47 = some (11, 14, 3) := (show xlk xF0 187 47 = some (11, 14, 3) by decide +kernel)
theorem f187_68 {xs : List Int32} : xtF (xTa xs) 187 68 = some (11, 21, 3) := (show xlk xF0 187 68 = some (11, 21, 3) by decide +kernel)
theorem f187_71 {xs : List Int32} : xtF (xTa xs) 187 71 = some (11, 22, 3) := (show xlk xF0 187 71 = some (11, 22, 3) by decide +kernel)
theorem f187_224 {xs : List Int32} : xtF (xTa xs) 187 224 = some (11, 37, 0) := (show xlk xF0 187 224 = some (11, 37, 0) by decide +kernel)
theorem f187_278 {xs : List Int32} : xtF (xTa xs) 187 278 = some (11, 35, 0) := (show xlk xF0 187 278 = some (11, 35, 0) by decide +kernel)
theorem f188_41 {xs : List Int32} : xtF (xTa xs) 188 41 = some (11, 12, 3) := (show xlk xF0 188 41 = some (11, 12, 3) by decide +kernel)
theorem f188_44 {xs : List Int32} : xtF (xTa xs) 188 44 = some (11, 13, 3) := (show xlk xF0 188 44 = some (11, 13, 3) by decide +kernel)
theorem f188_47 {xs : List Int32} : xtF (xTa xs) 188 47 = some (11, 14, 3) := (show xlk xF0 188 47 = some (11, 14, 3) by decide +kernel)
theorem f188_50 {xs : List Int32} : xtF (xTa xs) 188 50 = some (11, 15, 3) := (show xlk xF0 188 50 = some (11, 15, 3) by decide +kernel)
theorem f188_53 {xs : List Int32} : xtF (xTa xs) 188 53 = some (11, 16, 3) := (show xlk xF0 188 53 = some (11, 16, 3) by decide +kernel)
theorem f188_56 {xs : List Int32} : xtF (xTa xs) 188 56 = some (11, 17, 3) := (show xlk xF0 188 56 = some (11, 17, 3) by decide +kernel)
theorem f188_59 {xs : List Int32} : xtF (xTa xs) 188 59 = some (11, 18, 3) := (show xlk xF0 188 59 = some (11, 18, 3) by decide +kernel)
theorem f188_62 {xs : List Int32} : xtF (xTa xs) 188 62 = some (11, 19, 3) := (show xlk xF0 188 62 = some (11, 19, 3) by decide +kernel)
theorem f188_65 {xs : List Int32} : xtF (xTa xs) 188 65 = some (11, 20, 3) := (show xlk xF0 188 65 = some (11, 20, 3) by decide +kernel)
theorem f188_68 {xs : List Int32} : xtF (xTa xs) 188 68 = some (11, 21, 3) := (show xlk xF0 188 68 = some (11, 21, 3) by decide +kernel)
theorem f188_71 {xs : List Int32} : xtF (xTa xs) 188 71 = some (11, 22, 3) := (show xlk xF0 188 71 = some (11, 22, 3) by decide +kernel)
theorem f188_74 {xs : List Int32} : xtF (xTa xs) 188 74 = some (11, 23, 3) := (show xlk xF0 188 74 = some (11, 23, 3) by decide +kernel)
theorem f188_77 {xs : List Int32} : xtF (xTa xs) 188 77 = some (11, 24, 3) := (show xlk xF0 188 77 = some (11, 24, 3) by decide +kernel)
theorem f188_80 {xs : List Int32} : xtF (xTa xs) 188 80 = some (11, 25, 3) := (show xlk xF0 188 80 = some (11, 25, 3) by decide +kernel)
theorem f188_83 {xs : List Int32} : xtF (xTa xs) 188 83 = some (11, 26, 3) := (show xlk xF0 188 83 = some (11, 26, 3) by decide +kernel)
theorem f188_86 {xs : List Int32} : xtF (xTa xs) 188 86 = some (11, 27, 3) := (show xlk xF0 188 86 = some (11, 27, 3) by decide +kernel)
theorem f188_89 {xs : List Int32} : xtF (xTa xs) 188 89 = some (11, 28, 3) := (show xlk xF0 188 89 = some (11, 28, 3) by decide +kernel)
theorem f188_92 {xs : List Int32} : xtF (xTa xs) 188 92 = some (11, 29, 3) := (show xlk xF0 188 92 = some (11, 29, 3) by decide +kernel)
theorem f188_95 {xs : List Int32} : xtF (xTa xs) 188 95 = some (11, 30, 3) := (show xlk xF0 188 95 = some (11, 30, 3) by decide +kernel)
theorem f189_9 {xs : List Int32} : xtF (xTa xs) 189 9 = some (11, 0, 3) := (show xlk xF0 189 9 = some (11, 0, 3) by decide +kernel)
theorem f189_13 {xs : List Int32} : xtF (xTa xs) 189 13 = some (11, 3, 3) := (show xlk xF0 189 13 = some (11, 3, 3) by decide +kernel)
theorem f189_41 {xs : List Int32} : xtF (xTa xs) 189 41 = some (11, 12, 3) := (show xlk xF0 189 41 = some (11, 12, 3) by decide +kernel)
theorem f189_47 {xs : List Int32} : xtF (xTa xs) 189 47 = some (11, 14, 3) := (show xlk xF0 189 47 = some (11, 14, 3) by decide +kernel)
theorem f189_146 {xs : List Int32} : xtF (xTa xs) 189 146 = some (11, 1, 0) := (show xlk xF0 189 146 = some (11, 1, 0) by decide +kernel)
theorem f189_218 {xs : List Int32} : xtF (xTa xs) 189 218 = some (11, 31, 0) := (show xlk xF0 189 218 = some (11, 31, 0) by decide +kernel)
theorem f189_221 {xs : List Int32} : xtF (xTa xs) 189 221 = some (11, 32, 0) := (show xlk xF0 189 221 = some (11, 32, 0) by decide +kernel)
theorem f189_312 {xs : List Int32} : xtF (xTa xs) 189 312 = some (11, 34, 0) := (show xlk xF0 189 312 = some (11, 34, 0) by decide +kernel)
theorem f189_347 {xs : List Int32} : xtF (xTa xs) 189 347 = some (11, 33, 0) := (show xlk xF0 189 347 = some (11, 33, 0) by decide +kernel)
theorem f190_347 {xs : List Int32} : xtF (xTa xs) 190 347 = some (11, 33, 0) := (show xlk xF0 190 347 = some (11, 33, 0) by decide +kernel)
theorem f191_44 {xs : List Int32} : xtF (xTa xs) 191 44 = some (11, 13, 3) := (show xlk xF0 191 44 = some (11, 13, 3) by decide +kernel)
theorem f191_47 {xs : List Int32} : xtF (xTa xs) 191 47 = some (11, 14, 3) := (show xlk xF0 191 47 = some (11, 14, 3) by decide +kernel)
theorem f191_50 {xs : List Int32} : xtF (xTa xs) 191 50 = some (11, 15, 3) := (show xlk xF0 191 50 = some (11, 15, 3) by decide +kernel)
theorem f192_17 {xs : List Int32} : xtF (xTa xs) 192 17 = some (11, 4, 3) := (show xlk xF0 192 17 = some (11, 4, 3) by decide +kernel)
theorem f192_20 {xs : List Int32} : xtF (xTa xs) 192 20 = some (11, 5, 3) := (show xlk xF0 192 20 = some (11, 5, 3) by decide +kernel)
theorem f192_23 {xs : List Int32} : xtF (xTa xs) 192 23 = some (11, 6, 3) := (show xlk xF0 192 23 = some (11, 6, 3) by decide +kernel)
theorem f192_32 {xs : List Int32} : xtF (xTa xs) 192 32 = some (11, 9, 3) := (show xlk xF0 192 32 = some (11, 9, 3) by decide +kernel)
theorem f192_47 {xs : List Int32} : xtF (xTa xs) 192 47 = some (11, 14, 3) := (show xlk xF0 192 47 = some (11, 14, 3) by decide +kernel)
theorem f192_50 {xs : List Int32} : xtF (xTa xs) 192 50 = some (11, 15, 3) := (show xlk xF0 192 50 = some (11, 15, 3) by decide +kernel)
theorem f193_47 {xs : List Int32} : xtF (xTa xs) 193 47 = some (11, 14, 3) := (show xlk xF0 193 47 = some (11, 14, 3) by decide +kernel)
theorem f193_53 {xs : List Int32} : xtF (xTa xs) 193 53 = some (11, 16, 3) := (show xlk xF0 193 53 = some (11, 16, 3) by decide +kernel)
theorem f193_56 {xs : List Int32} : xtF (xTa xs) 193 56 = some (11, 17, 3) := (show xlk xF0 193 56 = some (11, 17, 3) by decide +kernel)
theorem f193_62 {xs : List Int32} : xtF (xTa xs) 193 62 = some (11, 19, 3) := (show xlk xF0 193 62 = some (11, 19, 3) by decide +kernel)
theorem f193_65 {xs : List Int32} : xtF (xTa xs) 193 65 = some (11, 20, 3) := (show xlk xF0 193 65 = some (11, 20, 3) by decide +kernel)
theorem f194_41 {xs : List Int32} : xtF (xTa xs) 194 41 = some (11, 12, 3) := (show xlk xF0 194 41 = some (11, 12, 3) by decide +kernel)
theorem f194_50 {xs : List Int32} : xtF (xTa xs) 194 50 = some (11, 15, 3) := (show xlk xF0 194 50 = some (11, 15, 3) by decide +kernel)
theorem f194_77 {xs : List Int32} : xtF (xTa xs) 194 77 = some (11, 24, 3) := (show xlk xF0 194 77 = some (11, 24, 3) by decide +kernel)
theorem f194_80 {xs : List Int32} : xtF (xTa xs) 194 80 = some (11, 25, 3) := (show xlk xF0 194 80 = some (11, 25, 3) by decide +kernel)
theorem f194_86 {xs : List Int32} : xtF (xTa xs) 194 86 = some (11, 27, 3) := (show xlk xF0 194 86 = some (11, 27, 3) by decide +kernel)
theorem f194_89 {xs : List Int32} : xtF (xTa xs) 194 89 = some (11, 28, 3) := (show xlk xF0 194 89 = some (11, 28, 3) by decide +kernel)
theorem f194_92 {xs : List Int32} : xtF (xTa xs) 194 92 = some (11, 29, 3) := (show xlk xF0 194 92 = some (11, 29, 3) by decide +kernel)
theorem f194_95 {xs : List Int32} : xtF (xTa xs) 194 95 = some (11, 30, 3) := (show xlk xF0 194 95 = some (11, 30, 3) by decide +kernel)
theorem f195_98 {xs : List Int32} : xtF (xTa xs) 195 98 = some (11, 44, 3) := (show xlk xF0 195 98 = some (11, 44, 3) by decide +kernel)
theorem f195_356 {xs : List Int32} : xtF (xTa xs) 195 356 = some (11, 45, 0) := (show xlk xF0 195 356 = some (11, 45, 0) by decide +kernel)
theorem f197_101 {xs : List Int32} : xtF (xTa xs) 197 101 = some (11, 46, 3) := (show xlk xF0 197 101 = some (11, 46, 3) by decide +kernel)
theorem f197_356 {xs : List Int32} : xtF (xTa xs) 197 356 = some (11, 45, 0) := (show xlk xF0 197 356 = some (11, 45, 0) by decide +kernel)
theorem f197_362 {xs : List Int32} : xtF (xTa xs) 197 362 = some (11, 47, 0) := (show xlk xF0 197 362 = some (11, 47, 0) by decide +kernel)
theorem f198_101 {xs : List Int32} : xtF (xTa xs) 198 101 = some (11, 46, 3) := (show xlk xF0 198 101 = some (11, 46, 3) by decide +kernel)
theorem f198_356 {xs : List Int32} : xtF (xTa xs) 198 356 = some (11, 45, 0) := (show xlk xF0 198 356 = some (11, 45, 0) by decide +kernel)
theorem f198_362 {xs : List Int32} : xtF (xTa xs) 198 362 = some (11, 47, 0) := (show xlk xF0 198 362 = some (11, 47, 0) by decide +kernel)
theorem f198_365 {xs : List Int32} : xtF (xTa xs) 198 365 = some (11, 49, 0) := (show xlk xF0 198 365 = some (11, 49, 0) by decide +kernel)
theorem f200_13 {xs : List Int32} : xtF (xTa xs) 200 13 = some (11, 3, 3) := (show xlk xF0 200 13 = some (11, 3, 3) by decide +kernel)
theorem f200_17 {xs : List Int32} : xtF (xTa xs) 200 17 = some (11, 4, 3) := (show xlk xF0 200 17 = some (11, 4, 3) by decide +kernel)
theorem f201_26 {xs : List Int32} : xtF (xTa xs) 201 26 = some (11, 7, 3) := (show xlk xF0 201 26 = some (11, 7, 3) by decide +kernel)
theorem f201_29 {xs : List Int32} : xtF (xTa xs) 201 29 = some (11, 8, 3) := (show xlk xF0 201 29 = some (11, 8, 3) by decide +kernel)
theorem f202_119 {xs : List Int32} : xtF (xTa xs) 202 119 = some (11, 62, 3) := (show xlk xF0 202 119 = some (11, 62, 3) by decide +kernel)
theorem f202_377 {xs : List Int32} : xtF (xTa xs) 202 377 = some (11, 63, 0) := (show xlk xF0 202 377 = some (11, 63, 0) by decide +kernel)
theorem f202_380 {xs : List Int32} : xtF (xTa xs) 202 380 = some (11, 61, 0) := (show xlk xF0 202 380 = some (11, 61, 0) by decide +kernel)
theorem f203_116 {xs : List Int32} : xtF (xTa xs) 203 116 = some (11, 60, 3) := (show xlk xF0 203 116 = some (11, 60, 3) by decide +kernel)
theorem f203_380 {xs : List Int32} : xtF (xTa xs) 203 380 = some (11, 61, 0) := (show xlk xF0 203 380 = some (11, 61, 0) by decide +kernel)
theorem f204_41 {xs : List Int32} : xtF (xTa xs) 204 41 = some (11, 12, 3) := (show xlk xF0 204 41 = some (11, 12, 3) by decide +kernel)
theorem f206_104 {xs : List Int32} : xtF (xTa xs) 206 104 = some (11, 50, 3) := (show xlk xF0 206 104 = some (11, 50, 3) by decide +kernel)
theorem f206_386 {xs : List Int32} : xtF (xTa xs) 206 386 = some (11, 51, 0) := (show xlk xF0 206 386 = some (11, 51, 0) by decide +kernel)
theorem f207_41 {xs : List Int32} : xtF (xTa xs) 207 41 = some (11, 12, 3) := (show xlk xF0 207 41 = some (11, 12, 3) by decide +kernel)
theorem f207_53 {xs : List Int32} : xtF (xTa xs) 207 53 = some (11, 16, 3) := (show xlk xF0 207 53 = some (11, 16, 3) by decide +kernel)
theorem f207_59 {xs : List Int32} : xtF (xTa xs) 207 59 = some (11, 18, 3) := (show xlk xF0 207 59 = some (11, 18, 3) by decide +kernel)
theorem f207_62 {xs : List Int32} : xtF (xTa xs) 207 62 = some (11, 19, 3) := (show xlk xF0 207 62 = some (11, 19, 3) by decide +kernel)
theorem f207_68 {xs : List Int32} : xtF (xTa xs) 207 68 = some (11, 21, 3) := (show xlk xF0 207 68 = some (11, 21, 3) by decide +kernel)
theorem f207_71 {xs : List Int32} : xtF (xTa xs) 207 71 = some (11, 22, 3) := (show xlk xF0 207 71 = some (11, 22, 3) by decide +kernel)
theorem f207_77 {xs : List Int32} : xtF (xTa xs) 207 77 = some (11, 24, 3) := (show xlk xF0 207 77 = some (11, 24, 3) by decide +kernel)
theorem f207_83 {xs : List Int32} : xtF (xTa xs) 207 83 = some (11, 26, 3) := (show xlk xF0 207 83 = some (11, 26, 3) by decide +kernel)
theorem f207_86 {xs : List Int32} : xtF (xTa xs) 207 86 = some (11, 27, 3) := (show xlk xF0 207 86 = some (11, 27, 3) by decide +kernel)
theorem f207_89 {xs : List Int32} : xtF (xTa xs) 207 89 = some (11, 28, 3) := (show xlk xF0 207 89 = some (11, 28, 3) by decide +kernel)
theorem f207_92 {xs : List Int32} : xtF (xTa xs) 207 92 = some (11, 29, 3) := (show xlk xF0 207 92 = some (11, 29, 3) by decide +kernel)
theorem f207_95 {xs : List Int32} : xtF (xTa xs) 207 95 = some (11, 30, 3) := (show xlk xF0 207 95 = some (11, 30, 3) by decide +kernel)
theorem f207_377 {xs : List Int32} : xtF (xTa xs) 207 377 = some (11, 63, 0) := (show xlk xF0 207 377 = some (11, 63, 0) by decide +kernel)
theorem f207_380 {xs : List Int32} : xtF (xTa xs) 207 380 = some (11, 61, 0) := (show xlk xF0 207 380 = some (11, 61, 0) by decide +kernel)
theorem f208_119 {xs : List Int32} : xtF (xTa xs) 208 119 = some (11, 62, 3) := (show xlk xF0 208 119 = some (11, 62, 3) by decide +kernel)
theorem f208_377 {xs : List Int32} : xtF (xTa xs) 208 377 = some (11, 63, 0) := (show xlk xF0 208 377 = some (11, 63, 0) by decide +kernel)
theorem f208_380 {xs : List Int32} : xtF (xTa xs) 208 380 = some (11, 61, 0) := (show xlk xF0 208 380 = some (11, 61, 0) by decide +kernel)
theorem f210_122 {xs : List Int32} : xtF (xTa xs) 210 122 = some (11, 64, 3) := (show xlk xF0 210 122 = some (11, 64, 3) by decide +kernel)
theorem f210_125 {xs : List Int32} : xtF (xTa xs) 210 125 = some (11, 65, 3) := (show xlk xF0 210 125 = some (11, 65, 3) by decide +kernel)
theorem f210_377 {xs : List Int32} : xtF (xTa xs) 210 377 = some (11, 63, 0) := (show xlk xF0 210 377 = some (11, 63, 0) by decide +kernel)
theorem f211_53 {xs : List Int32} : xtF (xTa xs) 211 53 = some (11, 16, 3) := (show xlk xF0 211 53 = some (11, 16, 3) by decide +kernel)
theorem f211_56 {xs : List Int32} : xtF (xTa xs) 211 56 = some (11, 17, 3) := (show xlk xF0 211 56 = some (11, 17, 3) by decide +kernel)
theorem f211_116 {xs : List Int32} : xtF (xTa xs) 211 116 = some (11, 60, 3) := (show xlk xF0 211 116 = some (11, 60, 3) by decide +kernel)
theorem f211_119 {xs : List Int32} : xtF (xTa xs) 211 119 = some (11, 62, 3) := (show xlk xF0 211 119 = some (11, 62, 3) by decide +kernel)
theorem f211_122 {xs : List Int32} : xtF (xTa xs) 211 122 = some (11, 64, 3) := (show xlk xF0 211 122 = some (11, 64, 3) by decide +kernel)
theorem f211_125 {xs : List Int32} : xtF (xTa xs) 211 125 = some (11, 65, 3) := (show xlk xF0 211 125 = some (11, 65, 3) by decide +kernel)
theorem f211_377 {xs : List Int32} : xtF (xTa xs) 211 377 = some (11, 63, 0) := (show xlk xF0 211 377 = some (11, 63, 0) by decide +kernel)
theorem f211_415 {xs : List Int32} : xtF (xTa xs) 211 415 = some (11, 48, 0) := (show xlk xF0 211 415 = some (11, 48, 0) by decide +kernel)
theorem f212_47 {xs : List Int32} : xtF (xTa xs) 212 47 = some (11, 14, 3) := (show xlk xF0 212 47 = some (11, 14, 3) by decide +kernel)
theorem f212_53 {xs : List Int32} : xtF (xTa xs) 212 53 = some (11, 16, 3) := (show xlk xF0 212 53 = some (11, 16, 3) by decide +kernel)
theorem f212_128 {xs : List Int32} : xtF (xTa xs) 212 128 = some (11, 66, 3) := (show xlk xF0 212 128 = some (11, 66, 3) by decide +kernel)
theorem f212_131 {xs : List Int32} : xtF (xTa xs) 212 131 = some (11, 67, 3) := (show xlk xF0 212 131 = some (11, 67, 3) by decide +kernel)
theorem f212_134 {xs : List Int32} : xtF (xTa xs) 212 134 = some (11, 69, 3) := (show xlk xF0 212 134 = some (11, 69, 3) by decide +kernel)
theorem f212_137 {xs : List Int32} : xtF (xTa xs) 212 137 = some (11, 70, 3) := (show xlk xF0 212 137 = some (11, 70, 3) by decide +kernel)
theorem f212_418 {xs : List Int32} : xtF (xTa xs) 212 418 = some (11, 68, 0) := (show xlk xF0 212 418 = some (11, 68, 0) by decide +kernel)
theorem f213_47 {xs : List Int32} : xtF (xTa xs) 213 47 = some (11, 14, 3) := (show xlk xF0 213 47 = some (11, 14, 3) by decide +kernel)
theorem f213_53 {xs : List Int32} : xtF (xTa xs) 213 53 = some (11, 16, 3) := (show xlk xF0 213 53 = some (11, 16, 3) by decide +kernel)
theorem f214_74 {xs : List Int32} : xtF (xTa xs) 214 74 = some (11, 23, 3) := (show xlk xF0 214 74 = some (11, 23, 3) by decide +kernel)
theorem f214_98 {xs : List Int32} : xtF (xTa xs) 214 98 = some (11, 44, 3) := (show xlk xF0 214 98 = some (11, 44, 3) by decide +kernel)
theorem f214_101 {xs : List Int32} : xtF (xTa xs) 214 101 = some (11, 46, 3) := (show xlk xF0 214 101 = some (11, 46, 3) by decide +kernel)
theorem f214_104 {xs : List Int32} : xtF (xTa xs) 214 104 = some (11, 50, 3) := (show xlk xF0 214 104 = some (11, 50, 3) by decide +kernel)
theorem f214_107 {xs : List Int32} : xtF (xTa xs) 214 107 = some (11, 52, 3) := (show xlk xF0 214 107 = some (11, 52, 3) by decide +kernel)
theorem f214_110 {xs : List Int32} : xtF (xTa xs) 214 110 = some (11, 54, 3) := (show xlk xF0 214 110 = some (11, 54, 3) by decide +kernel)
theorem f214_113 {xs : List Int32} : xtF (xTa xs) 214 113 = some (11, 58, 3) := (show xlk xF0 214 113 = some (11, 58, 3) by decide +kernel)
theorem f214_128 {xs : List Int32} : xtF (xTa xs) 214 128 = some (11, 66, 3) := (show xlk xF0 214 128 = some (11, 66, 3) by decide +kernel)
theorem f214_131 {xs : List Int32} : xtF (xTa xs) 214 131 = some (11, 67, 3) := (show xlk xF0 214 131 = some (11, 67, 3) by decide +kernel)
theorem f214_356 {xs : List Int32} : xtF (xTa xs) 214 356 = some (11, 45, 0) := (show xlk xF0 214 356 = some (11, 45, 0) by decide +kernel)
theorem f214_362 {xs : List Int32} : xtF (xTa xs) 214 362 = some (11, 47, 0) := (show xlk xF0 214 362 = some (11, 47, 0) by decide +kernel)
theorem f214_365 {xs : List Int32} : xtF (xTa xs) 214 365 = some (11, 49, 0) := (show xlk xF0 214 365 = some (11, 49, 0) by decide +kernel)
theorem f214_386 {xs : List Int32} : xtF (xTa xs) 214 386 = some (11, 51, 0) := (show xlk xF0 214 386 = some (11, 51, 0) by decide +kernel)
theorem f214_415 {xs : List Int32} : xtF (xTa xs) 214 415 = some (11, 48, 0) := (show xlk xF0 214 415 = some (11, 48, 0) by decide +kernel)
theorem f214_418 {xs : List Int32} : xtF (xTa xs) 214 418 = some (11, 68, 0) := (show xlk xF0 214 418 = some (11, 68, 0) by decide +kernel)
theorem f214_440 {xs : List Int32} : xtF (xTa xs) 214 440 = some (11, 53, 0) := (show xlk xF0 214 440 = some (11, 53, 0) by decide +kernel)
theorem f214_443 {xs : List Int32} : xtF (xTa xs) 214 443 = some (11, 55, 0) := (show xlk xF0 214 443 = some (11, 55, 0) by decide +kernel)
theorem f214_446 {xs : List Int32} : xtF (xTa xs) 214 446 = some (11, 59, 0) := (show xlk xF0 214 446 = some (11, 59, 0) by decide +kernel)
theorem f214_449 {xs : List Int32} : xtF (xTa xs) 214 449 = some (11, 56, 0) := (show xlk xF0 214 449 = some (11, 56, 0) by decide +kernel)
theorem f214_452 {xs : List Int32} : xtF (xTa xs) 214 452 = some (11, 57, 0) := (show xlk xF0 214 452 = some (11, 57, 0) by decide +kernel)
theorem f215_440 {xs : List Int32} : xtF (xTa xs) 215 440 = some (11, 53, 0) := (show xlk xF0 215 440 = some (11, 53, 0) by decide +kernel)
theorem f215_443 {xs : List Int32} : xtF (xTa xs) 215 443 = some (11, 55, 0) := (show xlk xF0 215 443 = some (11, 55, 0) by decide +kernel)
theorem f215_446 {xs : List Int32} : xtF (xTa xs) 215 446 = some (11, 59, 0) := (show xlk xF0 215 446 = some (11, 59, 0) by decide +kernel)
theorem f215_449 {xs : List Int32} : xtF (xTa xs) 215 449 = some (11, 56, 0) := (show xlk xF0 215 449 = some (11, 56, 0) by decide +kernel)
theorem f215_452 {xs : List Int32} : xtF (xTa xs) 215 452 = some (11, 57, 0) := (show xlk xF0 215 452 = some (11, 57, 0) by decide +kernel)
theorem f216_107 {xs : List Int32} : xtF (xTa xs) 216 107 = some (11, 52, 3) := (show xlk xF0 216 107 = some (11, 52, 3) by decide +kernel)
theorem f216_440 {xs : List Int32} : xtF (xTa xs) 216 440 = some (11, 53, 0) := (show xlk xF0 216 440 = some (11, 53, 0) by decide +kernel)
theorem f217_110 {xs : List Int32} : xtF (xTa xs) 217 110 = some (11, 54, 3) := (show xlk xF0 217 110 = some (11, 54, 3) by decide +kernel)
theorem f217_443 {xs : List Int32} : xtF (xTa xs) 217 443 = some (11, 55, 0) := (show xlk xF0 217 443 = some (11, 55, 0) by decide +kernel)
theorem f218_113 {xs : List Int32} : xtF (xTa xs) 218 113 = some (11, 58, 3) := (show xlk xF0 218 113 = some (11, 58, 3) by decide +kernel)
theorem f218_446 {xs : List Int32} : xtF (xTa xs) 218 446 = some (11, 59, 0) := (show xlk xF0 218 446 = some (11, 59, 0) by decide +kernel)
theorem f219_140 {xs : List Int32} : xtF (xTa xs) 219 140 = some (11, 71, 3) := (show xlk xF0 219 140 = some (11, 71, 3) by decide +kernel)
theorem f219_143 {xs : List Int32} : xtF (xTa xs) 219 143 = some (11, 72, 3) := (show xlk xF0 219 143 = some (11, 72, 3) by decide +kernel)
theorem f219_455 {xs : List Int32} : xtF (xTa xs) 219 455 = some (11, 73, 0) := (show xlk xF0 219 455 = some (11, 73, 0) by decide +kernel)
theorem f220_32 {xs : List Int32} : xtF (xTa xs) 220 32 = some (11, 9, 3) := (show xlk xF0 220 32 = some (11, 9, 3) by decide +kernel)
theorem f221_35 {xs : List Int32} : xtF (xTa xs) 221 35 = some (11, 10, 3) := (show xlk xF0 221 35 = some (11, 10, 3) by decide +kernel)
theorem f221_38 {xs : List Int32} : xtF (xTa xs) 221 38 = some (11, 11, 3) := (show xlk xF0 221 38 = some (11, 11, 3) by decide +kernel)
theorem f221_41 {xs : List Int32} : xtF (xTa xs) 221 41 = some (11, 12, 3) := (show xlk xF0 221 41 = some (11, 12, 3) by decide +kernel)
theorem f221_53 {xs : List Int32} : xtF (xTa xs) 221 53 = some (11, 16, 3) := (show xlk xF0 221 53 = some (11, 16, 3) by decide +kernel)
theorem f221_68 {xs : List Int32} : xtF (xTa xs) 221 68 = some (11, 21, 3) := (show xlk xF0 221 68 = some (11, 21, 3) by decide +kernel)
theorem f221_71 {xs : List Int32} : xtF (xTa xs) 221 71 = some (11, 22, 3) := (show xlk xF0 221 71 = some (11, 22, 3) by decide +kernel)
theorem f222_41 {xs : List Int32} : xtF (xTa xs) 222 41 = some (11, 12, 3) := (show xlk xF0 222 41 = some (11, 12, 3) by decide +kernel)
theorem f222_47 {xs : List Int32} : xtF (xTa xs) 222 47 = some (11, 14, 3) := (show xlk xF0 222 47 = some (11, 14, 3) by decide +kernel)
theorem f222_53 {xs : List Int32} : xtF (xTa xs) 222 53 = some (11, 16, 3) := (show xlk xF0 222 53 = some (11, 16, 3) by decide +kernel)
theorem f222_59 {xs : List Int32} : xtF (xTa xs) 222 59 = some (11, 18, 3) := (show xlk xF0 222 59 = some (11, 18, 3) by decide +kernel)
theorem f222_62 {xs : List Int32} : xtF (xTa xs) 222 62 = some (11, 19, 3) := (show xlk xF0 222 62 = some (11, 19, 3) by decide +kernel)
theorem f222_65 {xs : List Int32} : xtF (xTa xs) 222 65 = some (11, 20, 3) := (show xlk xF0 222 65 = some (11, 20, 3) by decide +kernel)
theorem f222_68 {xs : List Int32} : xtF (xTa xs) 222 68 = some (11, 21, 3) := (show xlk xF0 222 68 = some (11, 21, 3) by decide +kernel)
theorem f222_71 {xs : List Int32} : xtF (xTa xs) 222 71 = some (11, 22, 3) := (show xlk xF0 222 71 = some (11, 22, 3) by decide +kernel)
theorem f222_77 {xs : List Int32} : xtF (xTa xs) 222 77 = some (11, 24, 3) := (show xlk xF0 222 77 = some (11, 24, 3) by decide +kernel)
theorem f222_80 {xs : List Int32} : xtF (xTa xs) 222 80 = some (11, 25, 3) := (show xlk xF0 222 80 = some (11, 25, 3) by decide +kernel)
theorem f222_92 {xs : List Int32} : xtF (xTa xs) 222 92 = some (11, 29, 3) := (show xlk xF0 222 92 = some (11, 29, 3) by decide +kernel)
theorem f222_95 {xs : List Int32} : xtF (xTa xs) 222 95 = some (11, 30, 3) := (show xlk xF0 222 95 = some (11, 30, 3) by decide +kernel)
theorem f223_47 {xs : List Int32} : xtF (xTa xs) 223 47 = some (11, 14, 3) := (show xlk xF0 223 47 = some (11, 14, 3) by decide +kernel)
theorem f223_53 {xs : List Int32} : xtF (xTa xs) 223 53 = some (11, 16, 3) := (show xlk xF0 223 53 = some (11, 16, 3) by decide +kernel)
theorem f224_23 {xs : List Int32} : xtF (xTa xs) 224 23 = some (11, 6, 3) := (show xlk xF0 224 23 = some (11, 6, 3) by decide +kernel)
theorem f224_32 {xs : List Int32} : xtF (xTa xs) 224 32 = some (11, 9, 3) := (show xlk xF0 224 32 = some (11, 9, 3) by decide +kernel)
theorem f224_47 {xs : List Int32} : xtF (xTa xs) 224 47 = some (11, 14, 3) := (show xlk xF0 224 47 = some (11, 14, 3) by decide +kernel)
theorem f224_53 {xs : List Int32} : xtF (xTa xs) 224 53 = some (11, 16, 3) := (show xlk xF0 224 53 = some (11, 16, 3) by decide +kernel)
theorem f224_65 {xs : List Int32} : xtF (xTa xs) 224 65 = some (11, 20, 3) := (show xlk xF0 224 65 = some (11, 20, 3) by decide +kernel)
theorem f224_455 {xs : List Int32} : xtF (xTa xs) 224 455 = some (11, 73, 0) := (show xlk xF0 224 455 = some (11, 73, 0) by decide +kernel)
theorem f225_140 {xs : List Int32} : xtF (xTa xs) 225 140 = some (11, 71, 3) := (show xlk xF0 225 140 = some (11, 71, 3) by decide +kernel)
theorem f225_143 {xs : List Int32} : xtF (xTa xs) 225 143 = some (11, 72, 3) := (show xlk xF0 225 143 = some (11, 72, 3) by decide +kernel)
theorem f225_455 {xs : List Int32} : xtF (xTa xs) 225 455 = some (11, 73, 0) := (show xlk xF0 225 455 = some (11, 73, 0) by decide +kernel)
theorem f226_13 {xs : List Int32} : xtF (xTa xs) 226 13 = some (11, 3, 3) := (show xlk xF0 226 13 = some (11, 3, 3) by decide +kernel)
theorem f226_44 {xs : List Int32} : xtF (xTa xs) 226 44 = some (11, 13, 3) := (show xlk xF0 226 44 = some (11, 13, 3) by decide +kernel)
theorem f226_146 {xs : List Int32} : xtF (xTa xs) 226 146 = some (11, 1, 0) := (show xlk xF0 226 146 = some (11, 1, 0) by decide +kernel)
theorem f226_158 {xs : List Int32} : xtF (xTa xs) 226 158 = some (11, 2, 0) := (show xlk xF0 226 158 = some (11, 2, 0) by decide +kernel)
theorem f227_9 {xs : List Int32} : xtF (xTa xs) 227 9 = some (20, 0, 0) := (show xlk xF0 227 9 = some (20, 0, 0) by decide +kernel)
theorem f228_9 {xs : List Int32} : xtF (xTa xs) 228 9 = some (20, 0, 0) := (show xlk xF0 228 9 = some (20, 0, 0) by decide +kernel)
theorem f229_15 {xs : List Int32} : xtF (xTa xs) 229 15 = some (20, 1, 0) := (show xlk xF0 229 15 = some (20, 1, 0) by decide +kernel)
theorem f229_38 {xs : List Int32} : xtF (xTa xs) 229 38 = some (21, 0, 0) := (show xlk xF0 229 38 = some (21, 0, 0) by decide +kernel)
theorem f230_15 {xs : List Int32} : xtF (xTa xs) 230 15 = some (20, 1, 0) := (show xlk xF0 230 15 = some (20, 1, 0) by decide +kernel)
theorem f230_38 {xs : List Int32} : xtF (xTa xs) 230 38 = some (21, 0, 0) := (show xlk xF0 230 38 = some (21, 0, 0) by decide +kernel)
theorem f231_1053 {xs : List Int32} : xtF (xTa xs) 231 1053 = some (21, 1, 0) := (show xlk xF0 231 1053 = some (21, 1, 0) by decide +kernel)
theorem v0_3 {xs : List Int32} : xtV (xTa xs) 0 3 = some (6, 0, 0) := (show xlk xV0 0 3 = some (6, 0, 0) by decide +kernel)
theorem v3_3 {xs : List Int32} : xtV (xTa xs) 3 3 = some (6, 0, 0) := (show xlk xV0 3 3 = some (6, 0, 0) by decide +kernel)
theorem v3_11 {xs : List Int32} : xtV (xTa xs) 3 11 = some (3, 95, 9) := (show xlk xV0 3 11 = some (3, 95, 9) by decide +kernel)
theorem v3_26 {xs : List Int32} : xtV (xTa xs) 3 26 = some (3, 0, 0) := (show xlk xV0 3 26 = some (3, 0, 0) by decide +kernel)
theorem v3_33 {xs : List Int32} : xtV (xTa xs) 3 33 = some (3, 59, 6) := (show xlk xV0 3 33 = some (3, 59, 6) by decide +kernel)
theorem v4_34 {xs : List Int32} : xtV (xTa xs) 4 34 = some (1, 102, 9) := (show xlk xV0 4 34 = some (1, 102, 9) by decide +kernel)
theorem v10_89 {xs : List Int32} : xtV (xTa xs) 10 89 = some (1, 103, 9) := (show xlk xV0 10 89 = some (1, 103, 9) by decide +kernel)
theorem v11_3 {xs : List Int32} : xtV (xTa xs) 11 3 = some (6, 0, 0) := (show xlk xV0 11 3 = some (6, 0, 0) by decide +kernel)
theorem v11_28 {xs : List Int32} : xtV (xTa xs) 11 28 = some (3, 95, 9) := (show xlk xV0 11 28 = some (3, 95, 9) by decide +kernel)
theorem v16_49 {xs : List Int32} : xtV (xTa xs) 16 49 = some (0, 15, 2) := (show xlk xV0 16 49 = some (0, 15, 2) by decide +kernel)
theorem v16_53 {xs : List Int32} : xtV (xTa xs) 16 53 = some (1, 103, 9) := (show xlk xV0 16 53 = some (1, 103, 9) by decide +kernel)
theorem v17_28 {xs : List Int32} : xtV (xTa xs) 17 28 = some (3, 95, 9) := (show xlk xV0 17 28 = some (3, 95, 9) by decide +kernel)
theorem v17_57 {xs : List Int32} : xtV (xTa xs) 17 57 = some (1, 102, 9) := (show xlk xV0 17 57 = some (1, 102, 9) by decide +kernel)
theorem v18_3 {xs : List Int32} : xtV (xTa xs) 18 3 = some (6, 0, 0) := (show xlk xV0 18 3 = some (6, 0, 0) by decide +kernel)
theorem v18_19 {xs : List Int32} : xtV (xTa xs) 18 19 = some (3, 95, 9) := (show xlk xV0 18 19 = some (3, 95, 9) by decide +kernel)
theorem v20_51 {xs : List Int32} : xtV (xTa xs) 20 51 = some (1, 5, 1) := (show xlk xV0 20 51 = some (1, 5, 1) by decide +kernel)
theorem v20_58 {xs : List Int32} : xtV (xTa xs) 20 58 = some (1, 92, 8) := (show xlk xV0 20 58 = some (1, 92, 8) by decide +kernel)
theorem v20_64 {xs : List Int32} : xtV (xTa xs) 20 64 = some (0, 20, 3) := (show xlk xV0 20 64 = some (0, 20, 3) by decide +kernel)
theorem v20_68 {xs : List Int32} : xtV (xTa xs) 20 68 = some (5, 138, 10) := (show xlk xV0 20 68 = some (5, 138, 10) by decide +kernel)
theorem v20_72 {xs : List Int32} : xtV (xTa xs) 20 72 = some (0, 22, 3) := (show xlk xV0 20 72 = some (0, 22, 3) by decide +kernel)
theorem v21_51 {xs : List Int32} : xtV (xTa xs) 21 51 = some (1, 5, 1) := (show xlk xV0 21 51 = some (1, 5, 1) by decide +kernel)
theorem v21_72 {xs : List Int32} : xtV (xTa xs) 21 72 = some (0, 22, 3) := (show xlk xV0 21 72 = some (0, 22, 3) by decide +kernel)
theorem v23_79 {xs : List Int32} : xtV (xTa xs) 23 79 = some (1, 94, 8) := (show xlk xV0 23 79 = some (1, 94, 8) by decide +kernel)
theorem v24_86 {xs : List Int32} : xtV (xTa xs) 24 86 = some (1, 51, 5) := (show xlk xV0 24 86 = some (1, 51, 5) by decide +kernel)
theorem v24_91 {xs : List Int32} : xtV (xTa xs) 24 91 = some (1, 55, 5) := (show xlk xV0 24 91 = some (1, 55, 5) by decide +kernel)
theorem v24_95 {xs : List Int32} : xtV (xTa xs) 24 95 = some (1, 56, 5) := (show xlk xV0 24 95 = some (1, 56, 5) by decide +kernel)
theorem v24_102 {xs : List Int32} : xtV (xTa xs) 24 102 = some (4, 25, 3) := (show xlk xV0 24 102 = some (4, 25, 3) by decide +kernel)
theorem v24_106 {xs : List Int32} : xtV (xTa xs) 24 106 = some (0, 28, 3) := (show xlk xV0 24 106 = some (0, 28, 3) by decide +kernel)
theorem v24_110 {xs : List Int32} : xtV (xTa xs) 24 110 = some (0, 26, 3) := (show xlk xV0 24 110 = some (0, 26, 3) by decide +kernel)
theorem v25_68 {xs : List Int32} : xtV (xTa xs) 25 68 = some (5, 138, 10) := (show xlk xV0 25 68 = some (5, 138, 10) by decide +kernel)
theorem v26_91 {xs : List Int32} : xtV (xTa xs) 26 91 = some (1, 55, 5) := (show xlk xV0 26 91 = some (1, 55, 5) by decide +kernel)
theorem v26_95 {xs : List Int32} : xtV (xTa xs) 26 95 = some (1, 56, 5) := (show xlk xV0 26 95 = some (1, 56, 5) by decide +kernel)
theorem v26_120 {xs : List Int32} : xtV (xTa xs) 26 120 = some (1, 57, 5) := (show xlk xV0 26 120 = some (1, 57, 5) by decide +kernel)
theorem v26_124 {xs : List Int32} : xtV (xTa xs) 26 124 = some (1, 101, 9) := (show xlk xV0 26 124 = some (1, 101, 9) by decide +kernel)
theorem v26_127 {xs : List Int32} : xtV (xTa xs) 26 127 = some (4, 27, 3) := (show xlk xV0 26 127 = some (4, 27, 3) by decide +kernel)
theorem v26_134 {xs : List Int32} : xtV (xTa xs) 26 134 = some (1, 54, 5) := (show xlk xV0 26 134 = some (1, 54, 5) by decide +kernel)
theorem v26_138 {xs : List Int32} : xtV (xTa xs) 26 138 = some (1, 52, 5) := (show xlk xV0 26 138 = some (1, 52, 5) by decide +kernel)
theorem v27_141 {xs : List Int32} : xtV (xTa xs) 27 141 = some (1, 97, 9) := (show xlk xV0 27 141 = some (1, 97, 9) by decide +kernel)
theorem v28_68 {xs : List Int32} : xtV (xTa xs) 28 68 = some (5, 138, 10) := (show xlk xV0 28 68 = some (5, 138, 10) by decide +kernel)
theorem v28_138 {xs : List Int32} : xtV (xTa xs) 28 138 = some (1, 52, 5) := (show xlk xV0 28 138 = some (1, 52, 5) by decide +kernel)
theorem v28_144 {xs : List Int32} : xtV (xTa xs) 28 144 = some (0, 29, 3) := (show xlk xV0 28 144 = some (0, 29, 3) by decide +kernel)
theorem v28_157 {xs : List Int32} : xtV (xTa xs) 28 157 = some (0, 38, 3) := (show xlk xV0 28 157 = some (0, 38, 3) by decide +kernel)
theorem v28_160 {xs : List Int32} : xtV (xTa xs) 28 160 = some (0, 37, 3) := (show xlk xV0 28 160 = some (0, 37, 3) by decide +kernel)
theorem v28_163 {xs : List Int32} : xtV (xTa xs) 28 163 = some (1, 53, 5) := (show xlk xV0 28 163 = some (1, 53, 5) by decide +kernel)
theorem v28_169 {xs : List Int32} : xtV (xTa xs) 28 169 = some (0, 39, 3) := (show xlk xV0 28 169 = some (0, 39, 3) by decide +kernel)
theorem v29_68 {xs : List Int32} : xtV (xTa xs) 29 68 = some (5, 138, 10) := (show xlk xV0 29 68 = some (5, 138, 10) by decide +kernel)
theorem v29_124 {xs : List Int32} : xtV (xTa xs) 29 124 = some (1, 101, 9) := (show xlk xV0 29 124 = some (1, 101, 9) by decide +kernel)
theorem v29_127 {xs : List Int32} : xtV (xTa xs) 29 127 = some (4, 27, 3) := (show xlk xV0 29 127 = some (4, 27, 3) by decide +kernel)
theorem v29_175 {xs : List Int32} : xtV (xTa xs) 29 175 = some (0, 30, 3) := (show xlk xV0 29 175 = some (0, 30, 3) by decide +kernel)
theorem v29_185 {xs : List Int32} : xtV (xTa xs) 29 185 = some (1, 6, 1) := (show xlk xV0 29 185 = some (1, 6, 1) by decide +kernel)
theorem v29_194 {xs : List Int32} : xtV (xTa xs) 29 194 = some (0, 31, 3) := (show xlk xV0 29 194 = some (0, 31, 3) by decide +kernel)
theorem v29_203 {xs : List Int32} : xtV (xTa xs) 29 203 = some (1, 100, 9) := (show xlk xV0 29 203 = some (1, 100, 9) by decide +kernel)
theorem v29_211 {xs : List Int32} : xtV (xTa xs) 29 211 = some (1, 58, 5) := (show xlk xV0 29 211 = some (1, 58, 5) by decide +kernel)
theorem v29_215 {xs : List Int32} : xtV (xTa xs) 29 215 = some (0, 32, 3) := (show xlk xV0 29 215 = some (0, 32, 3) by decide +kernel)
theorem v30_127 {xs : List Int32} : xtV (xTa xs) 30 127 = some (4, 27, 3) := (show xlk xV0 30 127 = some (4, 27, 3) by decide +kernel)
theorem v30_141 {xs : List Int32} : xtV (xTa xs) 30 141 = some (1, 97, 9) := (show xlk xV0 30 141 = some (1, 97, 9) by decide +kernel)
theorem v30_194 {xs : List Int32} : xtV (xTa xs) 30 194 = some (0, 31, 3) := (show xlk xV0 30 194 = some (0, 31, 3) by decide +kernel)
theorem v30_203 {xs : List Int32} : xtV (xTa xs) 30 203 = some (1, 100, 9) := (show xlk xV0 30 203 = some (1, 100, 9) by decide +kernel)
theorem v30_211 {xs : List Int32} : xtV (xTa xs) 30 211 = some (1, 58, 5) := (show xlk xV0 30 211 = some (1, 58, 5) by decide +kernel)
theorem v30_215 {xs : List Int32} : xtV (xTa xs) 30 215 = some (0, 32, 3) := (show xlk xV0 30 215 = some (0, 32, 3) by decide +kernel)
theorem v30_218 {xs : List Int32} : xtV (xTa xs) 30 218 = some (5, 139, 10) := (show xlk xV0 30 218 = some (5, 139, 10) by decide +kernel)
theorem v30_222 {xs : List Int32} : xtV (xTa xs) 30 222 = some (1, 99, 9) := (show xlk xV0 30 222 = some (1, 99, 9) by decide +kernel)
theorem v30_232 {xs : List Int32} : xtV (xTa xs) 30 232 = some (1, 1, 0) := (show xlk xV0 30 232 = some (1, 1, 0) by decide +kernel)
theorem v33_237 {xs : List Int32} : xtV (xTa xs) 33 237 = some (0, 34, 3) := (show xlk xV0 33 237 = some (0, 34, 3) by decide +kernel)
theorem v35_241 {xs : List Int32} : xtV (xTa xs) 35 241 = some (0, 33, 3) := (show xlk xV0 35 241 = some (0, 33, 3) by decide +kernel)
theorem v36_241 {xs : List Int32} : xtV (xTa xs) 36 241 = some (0, 33, 3) := (show xlk xV0 36 241 = some (0, 33, 3) by decide +kernel)
theorem v36_245 {xs : List Int32} : xtV (xTa xs) 36 245 = some (7, 0, 0) := (show xlk xV0 36 245 = some (7, 0, 0) by decide +kernel)
theorem v37_250 {xs : List Int32} : xtV (xTa xs) 37 250 = some (0, 35, 3) := (show xlk xV0 37 250 = some (0, 35, 3) by decide +kernel)
theorem v38_250 {xs : List Int32} : xtV (xTa xs) 38 250 = some (0, 35, 3) := (show xlk xV0 38 250 = some (0, 35, 3) by decide +kernel)
theorem v38_253 {xs : List Int32} : xtV (xTa xs) 38 253 = some (0, 36, 3) := (show xlk xV0 38 253 = some (0, 36, 3) by decide +kernel)
theorem v39_95 {xs : List Int32} : xtV (xTa xs) 39 95 = some (1, 56, 5) := (show xlk xV0 39 95 = some (1, 56, 5) by decide +kernel)
theorem v39_134 {xs : List Int32} : xtV (xTa xs) 39 134 = some (1, 54, 5) := (show xlk xV0 39 134 = some (1, 54, 5) by decide +kernel)
theorem v39_138 {xs : List Int32} : xtV (xTa xs) 39 138 = some (1, 52, 5) := (show xlk xV0 39 138 = some (1, 52, 5) by decide +kernel)
theorem v39_163 {xs : List Int32} : xtV (xTa xs) 39 163 = some (1, 53, 5) := (show xlk xV0 39 163 = some (1, 53, 5) by decide +kernel)
theorem v39_237 {xs : List Int32} : xtV (xTa xs) 39 237 = some (0, 34, 3) := (show xlk xV0 39 237 = some (0, 34, 3) by decide +kernel)
theorem v39_253 {xs : List Int32} : xtV (xTa xs) 39 253 = some (0, 36, 3) := (show xlk xV0 39 253 = some (0, 36, 3) by decide +kernel)
theorem v40_3 {xs : List Int32} : xtV (xTa xs) 40 3 = some (6, 0, 0) := (show xlk xV0 40 3 = some (6, 0, 0) by decide +kernel)
theorem v42_22 {xs : List Int32} : xtV (xTa xs) 42 22 = some (1, 91, 8) := (show xlk xV0 42 22 = some (1, 91, 8) by decide +kernel)
theorem v42_28 {xs : List Int32} : xtV (xTa xs) 42 28 = some (0, 41, 4) := (show xlk xV0 42 28 = some (0, 41, 4) by decide +kernel)
theorem v42_32 {xs : List Int32} : xtV (xTa xs) 42 32 = some (1, 14, 2) := (show xlk xV0 42 32 = some (1, 14, 2) by decide +kernel)
theorem v42_38 {xs : List Int32} : xtV (xTa xs) 42 38 = some (0, 43, 4) := (show xlk xV0 42 38 = some (0, 43, 4) by decide +kernel)
theorem v42_42 {xs : List Int32} : xtV (xTa xs) 42 42 = some (1, 92, 8) := (show xlk xV0 42 42 = some (1, 92, 8) by decide +kernel)
theorem v42_45 {xs : List Int32} : xtV (xTa xs) 42 45 = some (0, 45, 4) := (show xlk xV0 42 45 = some (0, 45, 4) by decide +kernel)
theorem v42_49 {xs : List Int32} : xtV (xTa xs) 42 49 = some (0, 46, 4) := (show xlk xV0 42 49 = some (0, 46, 4) by decide +kernel)
theorem v42_53 {xs : List Int32} : xtV (xTa xs) 42 53 = some (0, 47, 4) := (show xlk xV0 42 53 = some (0, 47, 4) by decide +kernel)
theorem v42_56 {xs : List Int32} : xtV (xTa xs) 42 56 = some (0, 48, 4) := (show xlk xV0 42 56 = some (0, 48, 4) by decide +kernel)
theorem v43_65 {xs : List Int32} : xtV (xTa xs) 43 65 = some (1, 5, 1) := (show xlk xV0 43 65 = some (1, 5, 1) by decide +kernel)
theorem v43_69 {xs : List Int32} : xtV (xTa xs) 43 69 = some (1, 94, 8) := (show xlk xV0 43 69 = some (1, 94, 8) by decide +kernel)
theorem v43_73 {xs : List Int32} : xtV (xTa xs) 43 73 = some (0, 44, 4) := (show xlk xV0 43 73 = some (0, 44, 4) by decide +kernel)
theorem v44_28 {xs : List Int32} : xtV (xTa xs) 44 28 = some (0, 41, 4) := (show xlk xV0 44 28 = some (0, 41, 4) by decide +kernel)
theorem v44_76 {xs : List Int32} : xtV (xTa xs) 44 76 = some (1, 1, 0) := (show xlk xV0 44 76 = some (1, 1, 0) by decide +kernel)
theorem v44_95 {xs : List Int32} : xtV (xTa xs) 44 95 = some (1, 6, 1) := (show xlk xV0 44 95 = some (1, 6, 1) by decide +kernel)
theorem v45_28 {xs : List Int32} : xtV (xTa xs) 45 28 = some (0, 41, 4) := (show xlk xV0 45 28 = some (0, 41, 4) by decide +kernel)
theorem v45_106 {xs : List Int32} : xtV (xTa xs) 45 106 = some (1, 9, 1) := (show xlk xV0 45 106 = some (1, 9, 1) by decide +kernel)
theorem v46_28 {xs : List Int32} : xtV (xTa xs) 46 28 = some (0, 41, 4) := (show xlk xV0 46 28 = some (0, 41, 4) by decide +kernel)
theorem v46_65 {xs : List Int32} : xtV (xTa xs) 46 65 = some (1, 5, 1) := (show xlk xV0 46 65 = some (1, 5, 1) by decide +kernel)
theorem v46_120 {xs : List Int32} : xtV (xTa xs) 46 120 = some (1, 16, 2) := (show xlk xV0 46 120 = some (1, 16, 2) by decide +kernel)
theorem v47_28 {xs : List Int32} : xtV (xTa xs) 47 28 = some (0, 41, 4) := (show xlk xV0 47 28 = some (0, 41, 4) by decide +kernel)
theorem v47_106 {xs : List Int32} : xtV (xTa xs) 47 106 = some (1, 9, 1) := (show xlk xV0 47 106 = some (1, 9, 1) by decide +kernel)
theorem v48_28 {xs : List Int32} : xtV (xTa xs) 48 28 = some (0, 41, 4) := (show xlk xV0 48 28 = some (0, 41, 4) by decide +kernel)
theorem v48_131 {xs : List Int32} : xtV (xTa xs) 48 131 = some (1, 15, 2) := (show xlk xV0 48 131 = some (1, 15, 2) by decide +kernel)
theorem v48_135 {xs : List Int32} : xtV (xTa xs) 48 135 = some (4, 49, 4) := (show xlk xV0 48 135 = some (4, 49, 4) by decide +kernel)
theorem v49_32 {xs : List Int32} : xtV (xTa xs) 49 32 = some (1, 14, 2) := (show xlk xV0 49 32 = some (1, 14, 2) by decide +kernel)
theorem v49_106 {xs : List Int32} : xtV (xTa xs) 49 106 = some (1, 9, 1) := (show xlk xV0 49 106 = some (1, 9, 1) by decide +kernel)
theorem v49_139 {xs : List Int32} : xtV (xTa xs) 49 139 = some (1, 10, 1) := (show xlk xV0 49 139 = some (1, 10, 1) by decide +kernel)
theorem v49_143 {xs : List Int32} : xtV (xTa xs) 49 143 = some (1, 90, 8) := (show xlk xV0 49 143 = some (1, 90, 8) by decide +kernel)
theorem v50_3 {xs : List Int32} : xtV (xTa xs) 50 3 = some (6, 0, 0) := (show xlk xV0 50 3 = some (6, 0, 0) by decide +kernel)
theorem v50_11 {xs : List Int32} : xtV (xTa xs) 50 11 = some (3, 95, 9) := (show xlk xV0 50 11 = some (3, 95, 9) by decide +kernel)
theorem v51_30 {xs : List Int32} : xtV (xTa xs) 51 30 = some (1, 101, 9) := (show xlk xV0 51 30 = some (1, 101, 9) by decide +kernel)
theorem v52_53 {xs : List Int32} : xtV (xTa xs) 52 53 = some (1, 97, 9) := (show xlk xV0 52 53 = some (1, 97, 9) by decide +kernel)
theorem v53_57 {xs : List Int32} : xtV (xTa xs) 53 57 = some (0, 52, 5) := (show xlk xV0 53 57 = some (0, 52, 5) by decide +kernel)
theorem v54_57 {xs : List Int32} : xtV (xTa xs) 54 57 = some (0, 52, 5) := (show xlk xV0 54 57 = some (0, 52, 5) by decide +kernel)
theorem v54_60 {xs : List Int32} : xtV (xTa xs) 54 60 = some (1, 96, 9) := (show xlk xV0 54 60 = some (1, 96, 9) by decide +kernel)
theorem v55_57 {xs : List Int32} : xtV (xTa xs) 55 57 = some (0, 52, 5) := (show xlk xV0 55 57 = some (0, 52, 5) by decide +kernel)
theorem v55_74 {xs : List Int32} : xtV (xTa xs) 55 74 = some (0, 54, 5) := (show xlk xV0 55 74 = some (0, 54, 5) by decide +kernel)
theorem v56_57 {xs : List Int32} : xtV (xTa xs) 56 57 = some (0, 52, 5) := (show xlk xV0 56 57 = some (0, 52, 5) by decide +kernel)
theorem v56_78 {xs : List Int32} : xtV (xTa xs) 56 78 = some (7, 0, 0) := (show xlk xV0 56 78 = some (7, 0, 0) by decide +kernel)
theorem v59_1 {xs : List Int32} : xtV (xTa xs) 59 1 = some (6, 0, 0) := (show xlk xV0 59 1 = some (6, 0, 0) by decide +kernel)
theorem v60_3 {xs : List Int32} : xtV (xTa xs) 60 3 = some (6, 0, 0) := (show xlk xV0 60 3 = some (6, 0, 0) by decide +kernel)
theorem v60_11 {xs : List Int32} : xtV (xTa xs) 60 11 = some (3, 95, 9) := (show xlk xV0 60 11 = some (3, 95, 9) by decide +kernel)
theorem v61_45 {xs : List Int32} : xtV (xTa xs) 61 45 = some (0, 63, 7) := (show xlk xV0 61 45 = some (0, 63, 7) by decide +kernel)
theorem v61_51 {xs : List Int32} : xtV (xTa xs) 61 51 = some (1, 105, 9) := (show xlk xV0 61 51 = some (1, 105, 9) by decide +kernel)
theorem v61_55 {xs : List Int32} : xtV (xTa xs) 61 55 = some (1, 106, 9) := (show xlk xV0 61 55 = some (1, 106, 9) by decide +kernel)
theorem v61_59 {xs : List Int32} : xtV (xTa xs) 61 59 = some (0, 64, 7) := (show xlk xV0 61 59 = some (0, 64, 7) by decide +kernel)
theorem v61_62 {xs : List Int32} : xtV (xTa xs) 61 62 = some (0, 71, 7) := (show xlk xV0 61 62 = some (0, 71, 7) by decide +kernel)
theorem v61_66 {xs : List Int32} : xtV (xTa xs) 61 66 = some (0, 67, 7) := (show xlk xV0 61 66 = some (0, 67, 7) by decide +kernel)
theorem v61_70 {xs : List Int32} : xtV (xTa xs) 61 70 = some (0, 68, 7) := (show xlk xV0 61 70 = some (0, 68, 7) by decide +kernel)
theorem v63_73 {xs : List Int32} : xtV (xTa xs) 63 73 = some (1, 96, 9) := (show xlk xV0 63 73 = some (1, 96, 9) by decide +kernel)
theorem v63_77 {xs : List Int32} : xtV (xTa xs) 63 77 = some (5, 135, 10) := (show xlk xV0 63 77 = some (5, 135, 10) by decide +kernel)
theorem v63_81 {xs : List Int32} : xtV (xTa xs) 63 81 = some (0, 62, 7) := (show xlk xV0 63 81 = some (0, 62, 7) by decide +kernel)
theorem v64_73 {xs : List Int32} : xtV (xTa xs) 64 73 = some (1, 96, 9) := (show xlk xV0 64 73 = some (1, 96, 9) by decide +kernel)
theorem v65_89 {xs : List Int32} : xtV (xTa xs) 65 89 = some (5, 138, 10) := (show xlk xV0 65 89 = some (5, 138, 10) by decide +kernel)
theorem v66_81 {xs : List Int32} : xtV (xTa xs) 66 81 = some (0, 62, 7) := (show xlk xV0 66 81 = some (0, 62, 7) by decide +kernel)
theorem v66_93 {xs : List Int32} : xtV (xTa xs) 66 93 = some (1, 7, 1) := (show xlk xV0 66 93 = some (1, 7, 1) by decide +kernel)
theorem v67_81 {xs : List Int32} : xtV (xTa xs) 67 81 = some (0, 62, 7) := (show xlk xV0 67 81 = some (0, 62, 7) by decide +kernel)
theorem v67_103 {xs : List Int32} : xtV (xTa xs) 67 103 = some (8, 0, 0) := (show xlk xV0 67 103 = some (8, 0, 0) by decide +kernel)
theorem v67_108 {xs : List Int32} : xtV (xTa xs) 67 108 = some (0, 65, 7) := (show xlk xV0 67 108 = some (0, 65, 7) by decide +kernel)
theorem v67_112 {xs : List Int32} : xtV (xTa xs) 67 112 = some (0, 66, 7) := (show xlk xV0 67 112 = some (0, 66, 7) by decide +kernel)
theorem v67_118 {xs : List Int32} : xtV (xTa xs) 67 118 = some (0, 74, 7) := (show xlk xV0 67 118 = some (0, 74, 7) by decide +kernel)
theorem v68_81 {xs : List Int32} : xtV (xTa xs) 68 81 = some (0, 62, 7) := (show xlk xV0 68 81 = some (0, 62, 7) by decide +kernel)
theorem v68_108 {xs : List Int32} : xtV (xTa xs) 68 108 = some (0, 65, 7) := (show xlk xV0 68 108 = some (0, 65, 7) by decide +kernel)
theorem v68_112 {xs : List Int32} : xtV (xTa xs) 68 112 = some (0, 66, 7) := (show xlk xV0 68 112 = some (0, 66, 7) by decide +kernel)
theorem v68_118 {xs : List Int32} : xtV (xTa xs) 68 118 = some (0, 74, 7) := (show xlk xV0 68 118 = some (0, 74, 7) by decide +kernel)
theorem v68_121 {xs : List Int32} : xtV (xTa xs) 68 121 = some (1, 2, 0) := (show xlk xV0 68 121 = some (1, 2, 0) by decide +kernel)
theorem v68_124 {xs : List Int32} : xtV (xTa xs) 68 124 = some (0, 69, 7) := (show xlk xV0 68 124 = some (0, 69, 7) by decide +kernel)
theorem v68_128 {xs : List Int32} : xtV (xTa xs) 68 128 = some (1, 9, 1) := (show xlk xV0 68 128 = some (1, 9, 1) by decide +kernel)
theorem v69_51 {xs : List Int32} : xtV (xTa xs) 69 51 = some (1, 105, 9) := (show xlk xV0 69 51 = some (1, 105, 9) by decide +kernel)
theorem v69_55 {xs : List Int32} : xtV (xTa xs) 69 55 = some (1, 106, 9) := (show xlk xV0 69 55 = some (1, 106, 9) by decide +kernel)
theorem v69_59 {xs : List Int32} : xtV (xTa xs) 69 59 = some (0, 64, 7) := (show xlk xV0 69 59 = some (0, 64, 7) by decide +kernel)
theorem v69_134 {xs : List Int32} : xtV (xTa xs) 69 134 = some (1, 104, 9) := (show xlk xV0 69 134 = some (1, 104, 9) by decide +kernel)
theorem v69_142 {xs : List Int32} : xtV (xTa xs) 69 142 = some (1, 12, 2) := (show xlk xV0 69 142 = some (1, 12, 2) by decide +kernel)
theorem v69_147 {xs : List Int32} : xtV (xTa xs) 69 147 = some (9, 227, 0) := (show xlk xV0 69 147 = some (9, 227, 0) by decide +kernel)
theorem v70_134 {xs : List Int32} : xtV (xTa xs) 70 134 = some (1, 104, 9) := (show xlk xV0 70 134 = some (1, 104, 9) by decide +kernel)
theorem v70_147 {xs : List Int32} : xtV (xTa xs) 70 147 = some (9, 227, 0) := (show xlk xV0 70 147 = some (9, 227, 0) by decide +kernel)
theorem v70_153 {xs : List Int32} : xtV (xTa xs) 70 153 = some (5, 139, 10) := (show xlk xV0 70 153 = some (5, 139, 10) by decide +kernel)
theorem v71_51 {xs : List Int32} : xtV (xTa xs) 71 51 = some (1, 105, 9) := (show xlk xV0 71 51 = some (1, 105, 9) by decide +kernel)
theorem v71_55 {xs : List Int32} : xtV (xTa xs) 71 55 = some (1, 106, 9) := (show xlk xV0 71 55 = some (1, 106, 9) by decide +kernel)
theorem v71_81 {xs : List Int32} : xtV (xTa xs) 71 81 = some (0, 62, 7) := (show xlk xV0 71 81 = some (0, 62, 7) by decide +kernel)
theorem v71_112 {xs : List Int32} : xtV (xTa xs) 71 112 = some (0, 66, 7) := (show xlk xV0 71 112 = some (0, 66, 7) by decide +kernel)
theorem v71_118 {xs : List Int32} : xtV (xTa xs) 71 118 = some (0, 74, 7) := (show xlk xV0 71 118 = some (0, 74, 7) by decide +kernel)
theorem v71_121 {xs : List Int32} : xtV (xTa xs) 71 121 = some (1, 2, 0) := (show xlk xV0 71 121 = some (1, 2, 0) by decide +kernel)
theorem v71_128 {xs : List Int32} : xtV (xTa xs) 71 128 = some (1, 9, 1) := (show xlk xV0 71 128 = some (1, 9, 1) by decide +kernel)
theorem v71_157 {xs : List Int32} : xtV (xTa xs) 71 157 = some (0, 70, 7) := (show xlk xV0 71 157 = some (0, 70, 7) by decide +kernel)
theorem v71_160 {xs : List Int32} : xtV (xTa xs) 71 160 = some (0, 72, 7) := (show xlk xV0 71 160 = some (0, 72, 7) by decide +kernel)
theorem v72_51 {xs : List Int32} : xtV (xTa xs) 72 51 = some (1, 105, 9) := (show xlk xV0 72 51 = some (1, 105, 9) by decide +kernel)
theorem v72_55 {xs : List Int32} : xtV (xTa xs) 72 55 = some (1, 106, 9) := (show xlk xV0 72 55 = some (1, 106, 9) by decide +kernel)
theorem v72_81 {xs : List Int32} : xtV (xTa xs) 72 81 = some (0, 62, 7) := (show xlk xV0 72 81 = some (0, 62, 7) by decide +kernel)
theorem v72_163 {xs : List Int32} : xtV (xTa xs) 72 163 = some (1, 107, 9) := (show xlk xV0 72 163 = some (1, 107, 9) by decide +kernel)
theorem v72_166 {xs : List Int32} : xtV (xTa xs) 72 166 = some (1, 110, 9) := (show xlk xV0 72 166 = some (1, 110, 9) by decide +kernel)
theorem v72_169 {xs : List Int32} : xtV (xTa xs) 72 169 = some (1, 109, 9) := (show xlk xV0 72 169 = some (1, 109, 9) by decide +kernel)
theorem v72_172 {xs : List Int32} : xtV (xTa xs) 72 172 = some (0, 73, 7) := (show xlk xV0 72 172 = some (0, 73, 7) by decide +kernel)
theorem v73_182 {xs : List Int32} : xtV (xTa xs) 73 182 = some (1, 101, 9) := (show xlk xV0 73 182 = some (1, 101, 9) by decide +kernel)
theorem v73_185 {xs : List Int32} : xtV (xTa xs) 73 185 = some (1, 100, 9) := (show xlk xV0 73 185 = some (1, 100, 9) by decide +kernel)
theorem v73_189 {xs : List Int32} : xtV (xTa xs) 73 189 = some (1, 10, 1) := (show xlk xV0 73 189 = some (1, 10, 1) by decide +kernel)
theorem v74_55 {xs : List Int32} : xtV (xTa xs) 74 55 = some (1, 106, 9) := (show xlk xV0 74 55 = some (1, 106, 9) by decide +kernel)
theorem v74_134 {xs : List Int32} : xtV (xTa xs) 74 134 = some (1, 104, 9) := (show xlk xV0 74 134 = some (1, 104, 9) by decide +kernel)
theorem v74_195 {xs : List Int32} : xtV (xTa xs) 74 195 = some (0, 78, 7) := (show xlk xV0 74 195 = some (0, 78, 7) by decide +kernel)
theorem v74_201 {xs : List Int32} : xtV (xTa xs) 74 201 = some (0, 79, 7) := (show xlk xV0 74 201 = some (0, 79, 7) by decide +kernel)
theorem v74_204 {xs : List Int32} : xtV (xTa xs) 74 204 = some (0, 75, 7) := (show xlk xV0 74 204 = some (0, 75, 7) by decide +kernel)
theorem v75_73 {xs : List Int32} : xtV (xTa xs) 75 73 = some (1, 96, 9) := (show xlk xV0 75 73 = some (1, 96, 9) by decide +kernel)
theorem v75_219 {xs : List Int32} : xtV (xTa xs) 75 219 = some (4, 76, 7) := (show xlk xV0 75 219 = some (4, 76, 7) by decide +kernel)
theorem v75_222 {xs : List Int32} : xtV (xTa xs) 75 222 = some (0, 77, 7) := (show xlk xV0 75 222 = some (0, 77, 7) by decide +kernel)
theorem v77_81 {xs : List Int32} : xtV (xTa xs) 77 81 = some (0, 62, 7) := (show xlk xV0 77 81 = some (0, 62, 7) by decide +kernel)
theorem v77_226 {xs : List Int32} : xtV (xTa xs) 77 226 = some (1, 8, 1) := (show xlk xV0 77 226 = some (1, 8, 1) by decide +kernel)
theorem v78_73 {xs : List Int32} : xtV (xTa xs) 78 73 = some (1, 96, 9) := (show xlk xV0 78 73 = some (1, 96, 9) by decide +kernel)
theorem v78_77 {xs : List Int32} : xtV (xTa xs) 78 77 = some (5, 135, 10) := (show xlk xV0 78 77 = some (5, 135, 10) by decide +kernel)
theorem v78_147 {xs : List Int32} : xtV (xTa xs) 78 147 = some (9, 227, 0) := (show xlk xV0 78 147 = some (9, 227, 0) by decide +kernel)
theorem v78_222 {xs : List Int32} : xtV (xTa xs) 78 222 = some (0, 77, 7) := (show xlk xV0 78 222 = some (0, 77, 7) by decide +kernel)
theorem v79_51 {xs : List Int32} : xtV (xTa xs) 79 51 = some (1, 105, 9) := (show xlk xV0 79 51 = some (1, 105, 9) by decide +kernel)
theorem v79_55 {xs : List Int32} : xtV (xTa xs) 79 55 = some (1, 106, 9) := (show xlk xV0 79 55 = some (1, 106, 9) by decide +kernel)
theorem v79_147 {xs : List Int32} : xtV (xTa xs) 79 147 = some (9, 227, 0) := (show xlk xV0 79 147 = some (9, 227, 0) by decide +kernel)
theorem v79_169 {xs : List Int32} : xtV (xTa xs) 79 169 = some (1, 109, 9) := (show xlk xV0 79 169 = some (1, 109, 9) by decide +kernel)
theorem v79_222 {xs : List Int32} : xtV (xTa xs) 79 222 = some (0, 77, 7) := (show xlk xV0 79 222 = some (0, 77, 7) by decide +kernel)
theorem v79_231 {xs : List Int32} : xtV (xTa xs) 79 231 = some (0, 80, 7) := (show xlk xV0 79 231 = some (0, 80, 7) by decide +kernel)
theorem v80_51 {xs : List Int32} : xtV (xTa xs) 80 51 = some (1, 105, 9) := (show xlk xV0 80 51 = some (1, 105, 9) by decide +kernel)
theorem v80_73 {xs : List Int32} : xtV (xTa xs) 80 73 = some (1, 96, 9) := (show xlk xV0 80 73 = some (1, 96, 9) by decide +kernel)
theorem v80_77 {xs : List Int32} : xtV (xTa xs) 80 77 = some (5, 135, 10) := (show xlk xV0 80 77 = some (5, 135, 10) by decide +kernel)
theorem v81_3 {xs : List Int32} : xtV (xTa xs) 81 3 = some (6, 0, 0) := (show xlk xV0 81 3 = some (6, 0, 0) by decide +kernel)
theorem v82_21 {xs : List Int32} : xtV (xTa xs) 82 21 = some (3, 11, 2) := (show xlk xV0 82 21 = some (3, 11, 2) by decide +kernel)
theorem v82_28 {xs : List Int32} : xtV (xTa xs) 82 28 = some (1, 102, 9) := (show xlk xV0 82 28 = some (1, 102, 9) by decide +kernel)
theorem v84_37 {xs : List Int32} : xtV (xTa xs) 84 37 = some (0, 83, 8) := (show xlk xV0 84 37 = some (0, 83, 8) by decide +kernel)
theorem v84_41 {xs : List Int32} : xtV (xTa xs) 84 41 = some (1, 12, 2) := (show xlk xV0 84 41 = some (1, 12, 2) by decide +kernel)
theorem v85_45 {xs : List Int32} : xtV (xTa xs) 85 45 = some (0, 84, 8) := (show xlk xV0 85 45 = some (0, 84, 8) by decide +kernel)
theorem v86_37 {xs : List Int32} : xtV (xTa xs) 86 37 = some (0, 83, 8) := (show xlk xV0 86 37 = some (0, 83, 8) by decide +kernel)
theorem v87_52 {xs : List Int32} : xtV (xTa xs) 87 52 = some (0, 88, 8) := (show xlk xV0 87 52 = some (0, 88, 8) by decide +kernel)
theorem v88_60 {xs : List Int32} : xtV (xTa xs) 88 60 = some (1, 103, 9) := (show xlk xV0 88 60 = some (1, 103, 9) by decide +kernel)
theorem v89_52 {xs : List Int32} : xtV (xTa xs) 89 52 = some (0, 88, 8) := (show xlk xV0 89 52 = some (0, 88, 8) by decide +kernel)
theorem v90_68 {xs : List Int32} : xtV (xTa xs) 90 68 = some (0, 89, 8) := (show xlk xV0 90 68 = some (0, 89, 8) by decide +kernel)
theorem v91_71 {xs : List Int32} : xtV (xTa xs) 91 71 = some (0, 90, 8) := (show xlk xV0 91 71 = some (0, 90, 8) by decide +kernel)
theorem v92_71 {xs : List Int32} : xtV (xTa xs) 92 71 = some (0, 90, 8) := (show xlk xV0 92 71 = some (0, 90, 8) by decide +kernel)
theorem v92_75 {xs : List Int32} : xtV (xTa xs) 92 75 = some (0, 91, 8) := (show xlk xV0 92 75 = some (0, 91, 8) by decide +kernel)
theorem v93_68 {xs : List Int32} : xtV (xTa xs) 93 68 = some (0, 89, 8) := (show xlk xV0 93 68 = some (0, 89, 8) by decide +kernel)
theorem v93_78 {xs : List Int32} : xtV (xTa xs) 93 78 = some (1, 105, 9) := (show xlk xV0 93 78 = some (1, 105, 9) by decide +kernel)
theorem v93_82 {xs : List Int32} : xtV (xTa xs) 93 82 = some (0, 87, 8) := (show xlk xV0 93 82 = some (0, 87, 8) by decide +kernel)
theorem v93_86 {xs : List Int32} : xtV (xTa xs) 93 86 = some (1, 96, 9) := (show xlk xV0 93 86 = some (1, 96, 9) by decide +kernel)
theorem v93_90 {xs : List Int32} : xtV (xTa xs) 93 90 = some (5, 135, 10) := (show xlk xV0 93 90 = some (5, 135, 10) by decide +kernel)
theorem v93_94 {xs : List Int32} : xtV (xTa xs) 93 94 = some (1, 13, 2) := (show xlk xV0 93 94 = some (1, 13, 2) by decide +kernel)
theorem v94_103 {xs : List Int32} : xtV (xTa xs) 94 103 = some (1, 1, 0) := (show xlk xV0 94 103 = some (1, 1, 0) by decide +kernel)
theorem v94_120 {xs : List Int32} : xtV (xTa xs) 94 120 = some (0, 93, 8) := (show xlk xV0 94 120 = some (0, 93, 8) by decide +kernel)
theorem v94_130 {xs : List Int32} : xtV (xTa xs) 94 130 = some (1, 6, 1) := (show xlk xV0 94 130 = some (1, 6, 1) by decide +kernel)
theorem v95_3 {xs : List Int32} : xtV (xTa xs) 95 3 = some (6, 0, 0) := (show xlk xV0 95 3 = some (6, 0, 0) by decide +kernel)
theorem v95_9 {xs : List Int32} : xtV (xTa xs) 95 9 = some (7, 0, 0) := (show xlk xV0 95 9 = some (7, 0, 0) by decide +kernel)
theorem v98_25 {xs : List Int32} : xtV (xTa xs) 98 25 = some (0, 97, 9) := (show xlk xV0 98 25 = some (0, 97, 9) by decide +kernel)
theorem v99_25 {xs : List Int32} : xtV (xTa xs) 99 25 = some (0, 97, 9) := (show xlk xV0 99 25 = some (0, 97, 9) by decide +kernel)
theorem v99_29 {xs : List Int32} : xtV (xTa xs) 99 29 = some (9, 227, 0) := (show xlk xV0 99 29 = some (9, 227, 0) by decide +kernel)
theorem v99_35 {xs : List Int32} : xtV (xTa xs) 99 35 = some (9, 228, 0) := (show xlk xV0 99 35 = some (9, 228, 0) by decide +kernel)
theorem v100_25 {xs : List Int32} : xtV (xTa xs) 100 25 = some (0, 97, 9) := (show xlk xV0 100 25 = some (0, 97, 9) by decide +kernel)
theorem v100_39 {xs : List Int32} : xtV (xTa xs) 100 39 = some (0, 96, 9) := (show xlk xV0 100 39 = some (0, 96, 9) by decide +kernel)
theorem v102_43 {xs : List Int32} : xtV (xTa xs) 102 43 = some (0, 100, 9) := (show xlk xV0 102 43 = some (0, 100, 9) by decide +kernel)
theorem v104_29 {xs : List Int32} : xtV (xTa xs) 104 29 = some (9, 227, 0) := (show xlk xV0 104 29 = some (9, 227, 0) by decide +kernel)
theorem v104_35 {xs : List Int32} : xtV (xTa xs) 104 35 = some (9, 228, 0) := (show xlk xV0 104 35 = some (9, 228, 0) by decide +kernel)
theorem v104_39 {xs : List Int32} : xtV (xTa xs) 104 39 = some (0, 96, 9) := (show xlk xV0 104 39 = some (0, 96, 9) by decide +kernel)
theorem v105_39 {xs : List Int32} : xtV (xTa xs) 105 39 = some (0, 96, 9) := (show xlk xV0 105 39 = some (0, 96, 9) by decide +kernel)
theorem v106_39 {xs : List Int32} : xtV (xTa xs) 106 39 = some (0, 96, 9) := (show xlk xV0 106 39 = some (0, 96, 9) by decide +kernel)
theorem v107_39 {xs : List Int32} : xtV (xTa xs) 107 39 = some (0, 96, 9) := (show xlk xV0 107 39 = some (0, 96, 9) by decide +kernel)
theorem v107_47 {xs : List Int32} : xtV (xTa xs) 107 47 = some (5, 137, 10) := (show xlk xV0 107 47 = some (5, 137, 10) by decide +kernel)
theorem v107_50 {xs : List Int32} : xtV (xTa xs) 107 50 = some (5, 136, 10) := (show xlk xV0 107 50 = some (5, 136, 10) by decide +kernel)
theorem v108_39 {xs : List Int32} : xtV (xTa xs) 108 39 = some (0, 96, 9) := (show xlk xV0 108 39 = some (0, 96, 9) by decide +kernel)
theorem v108_53 {xs : List Int32} : xtV (xTa xs) 108 53 = some (0, 107, 9) := (show xlk xV0 108 53 = some (0, 107, 9) by decide +kernel)
theorem v108_57 {xs : List Int32} : xtV (xTa xs) 108 57 = some (5, 135, 10) := (show xlk xV0 108 57 = some (5, 135, 10) by decide +kernel)
theorem v109_53 {xs : List Int32} : xtV (xTa xs) 109 53 = some (0, 107, 9) := (show xlk xV0 109 53 = some (0, 107, 9) by decide +kernel)
theorem v109_61 {xs : List Int32} : xtV (xTa xs) 109 61 = some (0, 105, 9) := (show xlk xV0 109 61 = some (0, 105, 9) by decide +kernel)
theorem v110_39 {xs : List Int32} : xtV (xTa xs) 110 39 = some (0, 96, 9) := (show xlk xV0 110 39 = some (0, 96, 9) by decide +kernel)
theorem v110_50 {xs : List Int32} : xtV (xTa xs) 110 50 = some (5, 136, 10) := (show xlk xV0 110 50 = some (5, 136, 10) by decide +kernel)
theorem v110_57 {xs : List Int32} : xtV (xTa xs) 110 57 = some (5, 135, 10) := (show xlk xV0 110 57 = some (5, 135, 10) by decide +kernel)
theorem v111_1 {xs : List Int32} : xtV (xTa xs) 111 1 = some (6, 0, 0) := (show xlk xV0 111 1 = some (6, 0, 0) by decide +kernel)
theorem v111_11 {xs : List Int32} : xtV (xTa xs) 111 11 = some (3, 95, 9) := (show xlk xV0 111 11 = some (3, 95, 9) by decide +kernel)
theorem v111_20 {xs : List Int32} : xtV (xTa xs) 111 20 = some (3, 81, 8) := (show xlk xV0 111 20 = some (3, 81, 8) by decide +kernel)
theorem v111_27 {xs : List Int32} : xtV (xTa xs) 111 27 = some (3, 60, 7) := (show xlk xV0 111 27 = some (3, 60, 7) by decide +kernel)
theorem v111_34 {xs : List Int32} : xtV (xTa xs) 111 34 = some (3, 18, 3) := (show xlk xV0 111 34 = some (3, 18, 3) by decide +kernel)
theorem v111_41 {xs : List Int32} : xtV (xTa xs) 111 41 = some (3, 40, 4) := (show xlk xV0 111 41 = some (3, 40, 4) by decide +kernel)
theorem v111_48 {xs : List Int32} : xtV (xTa xs) 111 48 = some (3, 3, 1) := (show xlk xV0 111 48 = some (3, 3, 1) by decide +kernel)
theorem v111_55 {xs : List Int32} : xtV (xTa xs) 111 55 = some (3, 50, 5) := (show xlk xV0 111 55 = some (3, 50, 5) by decide +kernel)
theorem v112_67 {xs : List Int32} : xtV (xTa xs) 112 67 = some (1, 98, 9) := (show xlk xV0 112 67 = some (1, 98, 9) by decide +kernel)
theorem v113_70 {xs : List Int32} : xtV (xTa xs) 113 70 = some (1, 101, 9) := (show xlk xV0 113 70 = some (1, 101, 9) by decide +kernel)
theorem v114_70 {xs : List Int32} : xtV (xTa xs) 114 70 = some (1, 101, 9) := (show xlk xV0 114 70 = some (1, 101, 9) by decide +kernel)
theorem v114_73 {xs : List Int32} : xtV (xTa xs) 114 73 = some (1, 84, 8) := (show xlk xV0 114 73 = some (1, 84, 8) by decide +kernel)
theorem v114_77 {xs : List Int32} : xtV (xTa xs) 114 77 = some (1, 108, 9) := (show xlk xV0 114 77 = some (1, 108, 9) by decide +kernel)
theorem v114_81 {xs : List Int32} : xtV (xTa xs) 114 81 = some (1, 87, 8) := (show xlk xV0 114 81 = some (1, 87, 8) by decide +kernel)
theorem v114_85 {xs : List Int32} : xtV (xTa xs) 114 85 = some (1, 82, 8) := (show xlk xV0 114 85 = some (1, 82, 8) by decide +kernel)
theorem v115_70 {xs : List Int32} : xtV (xTa xs) 115 70 = some (1, 101, 9) := (show xlk xV0 115 70 = some (1, 101, 9) by decide +kernel)
theorem v115_73 {xs : List Int32} : xtV (xTa xs) 115 73 = some (1, 84, 8) := (show xlk xV0 115 73 = some (1, 84, 8) by decide +kernel)
theorem v115_77 {xs : List Int32} : xtV (xTa xs) 115 77 = some (1, 108, 9) := (show xlk xV0 115 77 = some (1, 108, 9) by decide +kernel)
theorem v115_85 {xs : List Int32} : xtV (xTa xs) 115 85 = some (1, 82, 8) := (show xlk xV0 115 85 = some (1, 82, 8) by decide +kernel)
theorem v115_89 {xs : List Int32} : xtV (xTa xs) 115 89 = some (1, 88, 8) := (show xlk xV0 115 89 = some (1, 88, 8) by decide +kernel)
theorem v116_70 {xs : List Int32} : xtV (xTa xs) 116 70 = some (1, 101, 9) := (show xlk xV0 116 70 = some (1, 101, 9) by decide +kernel)
theorem v116_77 {xs : List Int32} : xtV (xTa xs) 116 77 = some (1, 108, 9) := (show xlk xV0 116 77 = some (1, 108, 9) by decide +kernel)
theorem v116_93 {xs : List Int32} : xtV (xTa xs) 116 93 = some (1, 83, 8) := (show xlk xV0 116 93 = some (1, 83, 8) by decide +kernel)
theorem v116_96 {xs : List Int32} : xtV (xTa xs) 116 96 = some (1, 12, 2) := (show xlk xV0 116 96 = some (1, 12, 2) by decide +kernel)
theorem v116_102 {xs : List Int32} : xtV (xTa xs) 116 102 = some (1, 16, 2) := (show xlk xV0 116 102 = some (1, 16, 2) by decide +kernel)
theorem v116_106 {xs : List Int32} : xtV (xTa xs) 116 106 = some (1, 17, 2) := (show xlk xV0 116 106 = some (1, 17, 2) by decide +kernel)
theorem v117_70 {xs : List Int32} : xtV (xTa xs) 117 70 = some (1, 101, 9) := (show xlk xV0 117 70 = some (1, 101, 9) by decide +kernel)
theorem v117_93 {xs : List Int32} : xtV (xTa xs) 117 93 = some (1, 83, 8) := (show xlk xV0 117 93 = some (1, 83, 8) by decide +kernel)
theorem v117_110 {xs : List Int32} : xtV (xTa xs) 117 110 = some (1, 4, 1) := (show xlk xV0 117 110 = some (1, 4, 1) by decide +kernel)
theorem v117_114 {xs : List Int32} : xtV (xTa xs) 117 114 = some (1, 61, 7) := (show xlk xV0 117 114 = some (1, 61, 7) by decide +kernel)
theorem v117_121 {xs : List Int32} : xtV (xTa xs) 117 121 = some (0, 118, 10) := (show xlk xV0 117 121 = some (0, 118, 10) by decide +kernel)
theorem v118_48 {xs : List Int32} : xtV (xTa xs) 118 48 = some (3, 3, 1) := (show xlk xV0 118 48 = some (3, 3, 1) by decide +kernel)
theorem v120_93 {xs : List Int32} : xtV (xTa xs) 120 93 = some (1, 83, 8) := (show xlk xV0 120 93 = some (1, 83, 8) by decide +kernel)
theorem v120_138 {xs : List Int32} : xtV (xTa xs) 120 138 = some (1, 14, 2) := (show xlk xV0 120 138 = some (1, 14, 2) by decide +kernel)
theorem v121_93 {xs : List Int32} : xtV (xTa xs) 121 93 = some (1, 83, 8) := (show xlk xV0 121 93 = some (1, 83, 8) by decide +kernel)
theorem v121_138 {xs : List Int32} : xtV (xTa xs) 121 138 = some (1, 14, 2) := (show xlk xV0 121 138 = some (1, 14, 2) by decide +kernel)
theorem v121_146 {xs : List Int32} : xtV (xTa xs) 121 146 = some (4, 134, 10) := (show xlk xV0 121 146 = some (4, 134, 10) by decide +kernel)
theorem v121_158 {xs : List Int32} : xtV (xTa xs) 121 158 = some (1, 90, 8) := (show xlk xV0 121 158 = some (1, 90, 8) by decide +kernel)
theorem v121_162 {xs : List Int32} : xtV (xTa xs) 121 162 = some (1, 91, 8) := (show xlk xV0 121 162 = some (1, 91, 8) by decide +kernel)
theorem v122_168 {xs : List Int32} : xtV (xTa xs) 122 168 = some (0, 133, 10) := (show xlk xV0 122 168 = some (0, 133, 10) by decide +kernel)
theorem v122_172 {xs : List Int32} : xtV (xTa xs) 122 172 = some (1, 5, 1) := (show xlk xV0 122 172 = some (1, 5, 1) by decide +kernel)
theorem v123_146 {xs : List Int32} : xtV (xTa xs) 123 146 = some (4, 134, 10) := (show xlk xV0 123 146 = some (4, 134, 10) by decide +kernel)
theorem v123_168 {xs : List Int32} : xtV (xTa xs) 123 168 = some (0, 133, 10) := (show xlk xV0 123 168 = some (0, 133, 10) by decide +kernel)
theorem v123_186 {xs : List Int32} : xtV (xTa xs) 123 186 = some (1, 6, 1) := (show xlk xV0 123 186 = some (1, 6, 1) by decide +kernel)
theorem v123_215 {xs : List Int32} : xtV (xTa xs) 123 215 = some (1, 93, 8) := (show xlk xV0 123 215 = some (1, 93, 8) by decide +kernel)
theorem v124_70 {xs : List Int32} : xtV (xTa xs) 124 70 = some (1, 101, 9) := (show xlk xV0 124 70 = some (1, 101, 9) by decide +kernel)
theorem v124_93 {xs : List Int32} : xtV (xTa xs) 124 93 = some (1, 83, 8) := (show xlk xV0 124 93 = some (1, 83, 8) by decide +kernel)
theorem v124_146 {xs : List Int32} : xtV (xTa xs) 124 146 = some (4, 134, 10) := (show xlk xV0 124 146 = some (4, 134, 10) by decide +kernel)
theorem v124_215 {xs : List Int32} : xtV (xTa xs) 124 215 = some (1, 93, 8) := (show xlk xV0 124 215 = some (1, 93, 8) by decide +kernel)
theorem v124_219 {xs : List Int32} : xtV (xTa xs) 124 219 = some (1, 109, 9) := (show xlk xV0 124 219 = some (1, 109, 9) by decide +kernel)
theorem v125_93 {xs : List Int32} : xtV (xTa xs) 125 93 = some (1, 83, 8) := (show xlk xV0 125 93 = some (1, 83, 8) by decide +kernel)
theorem v125_162 {xs : List Int32} : xtV (xTa xs) 125 162 = some (1, 91, 8) := (show xlk xV0 125 162 = some (1, 91, 8) by decide +kernel)
theorem v125_222 {xs : List Int32} : xtV (xTa xs) 125 222 = some (1, 19, 3) := (show xlk xV0 125 222 = some (1, 19, 3) by decide +kernel)
theorem v125_225 {xs : List Int32} : xtV (xTa xs) 125 225 = some (1, 20, 3) := (show xlk xV0 125 225 = some (1, 20, 3) by decide +kernel)
theorem v125_229 {xs : List Int32} : xtV (xTa xs) 125 229 = some (1, 21, 3) := (show xlk xV0 125 229 = some (1, 21, 3) by decide +kernel)
theorem v125_233 {xs : List Int32} : xtV (xTa xs) 125 233 = some (1, 23, 3) := (show xlk xV0 125 233 = some (1, 23, 3) by decide +kernel)
theorem v125_237 {xs : List Int32} : xtV (xTa xs) 125 237 = some (1, 24, 3) := (show xlk xV0 125 237 = some (1, 24, 3) by decide +kernel)
theorem v127_257 {xs : List Int32} : xtV (xTa xs) 127 257 = some (1, 96, 9) := (show xlk xV0 127 257 = some (1, 96, 9) by decide +kernel)
theorem v127_261 {xs : List Int32} : xtV (xTa xs) 127 261 = some (7, 0, 0) := (show xlk xV0 127 261 = some (7, 0, 0) by decide +kernel)
theorem v129_146 {xs : List Int32} : xtV (xTa xs) 129 146 = some (4, 134, 10) := (show xlk xV0 129 146 = some (4, 134, 10) by decide +kernel)
theorem v129_271 {xs : List Int32} : xtV (xTa xs) 129 271 = some (1, 57, 5) := (show xlk xV0 129 271 = some (1, 57, 5) by decide +kernel)
theorem v130_93 {xs : List Int32} : xtV (xTa xs) 130 93 = some (1, 83, 8) := (show xlk xV0 130 93 = some (1, 83, 8) by decide +kernel)
theorem v130_274 {xs : List Int32} : xtV (xTa xs) 130 274 = some (1, 42, 4) := (show xlk xV0 130 274 = some (1, 42, 4) by decide +kernel)
theorem v132_286 {xs : List Int32} : xtV (xTa xs) 132 286 = some (1, 85, 8) := (show xlk xV0 132 286 = some (1, 85, 8) by decide +kernel)
theorem v132_290 {xs : List Int32} : xtV (xTa xs) 132 290 = some (1, 86, 8) := (show xlk xV0 132 290 = some (1, 86, 8) by decide +kernel)
theorem v133_93 {xs : List Int32} : xtV (xTa xs) 133 93 = some (1, 83, 8) := (show xlk xV0 133 93 = some (1, 83, 8) by decide +kernel)
theorem v133_138 {xs : List Int32} : xtV (xTa xs) 133 138 = some (1, 14, 2) := (show xlk xV0 133 138 = some (1, 14, 2) by decide +kernel)
theorem v140_3 {xs : List Int32} : xtV (xTa xs) 140 3 = some (6, 0, 0) := (show xlk xV0 140 3 = some (6, 0, 0) by decide +kernel)
theorem v143_150 {xs : List Int32} : xtV (xTa xs) 143 150 = some (0, 142, 11) := (show xlk xV0 143 150 = some (0, 142, 11) by decide +kernel)
theorem v144_154 {xs : List Int32} : xtV (xTa xs) 144 154 = some (4, 141, 11) := (show xlk xV0 144 154 = some (4, 141, 11) by decide +kernel)
theorem v148_154 {xs : List Int32} : xtV (xTa xs) 148 154 = some (4, 141, 11) := (show xlk xV0 148 154 = some (4, 141, 11) by decide +kernel)
theorem v149_161 {xs : List Int32} : xtV (xTa xs) 149 161 = some (0, 148, 11) := (show xlk xV0 149 161 = some (0, 148, 11) by decide +kernel)
theorem v150_154 {xs : List Int32} : xtV (xTa xs) 150 154 = some (4, 141, 11) := (show xlk xV0 150 154 = some (4, 141, 11) by decide +kernel)
theorem v150_165 {xs : List Int32} : xtV (xTa xs) 150 165 = some (4, 145, 11) := (show xlk xV0 150 165 = some (4, 145, 11) by decide +kernel)
theorem v150_168 {xs : List Int32} : xtV (xTa xs) 150 168 = some (4, 146, 11) := (show xlk xV0 150 168 = some (4, 146, 11) by decide +kernel)
theorem v150_171 {xs : List Int32} : xtV (xTa xs) 150 171 = some (4, 147, 11) := (show xlk xV0 150 171 = some (4, 147, 11) by decide +kernel)
theorem v153_174 {xs : List Int32} : xtV (xTa xs) 153 174 = some (0, 149, 11) := (show xlk xV0 153 174 = some (0, 149, 11) by decide +kernel)
theorem v153_178 {xs : List Int32} : xtV (xTa xs) 153 178 = some (0, 150, 11) := (show xlk xV0 153 178 = some (0, 150, 11) by decide +kernel)
theorem v153_182 {xs : List Int32} : xtV (xTa xs) 153 182 = some (0, 151, 11) := (show xlk xV0 153 182 = some (0, 151, 11) by decide +kernel)
theorem v153_186 {xs : List Int32} : xtV (xTa xs) 153 186 = some (0, 152, 11) := (show xlk xV0 153 186 = some (0, 152, 11) by decide +kernel)
theorem v154_174 {xs : List Int32} : xtV (xTa xs) 154 174 = some (0, 149, 11) := (show xlk xV0 154 174 = some (0, 149, 11) by decide +kernel)
theorem v154_178 {xs : List Int32} : xtV (xTa xs) 154 178 = some (0, 150, 11) := (show xlk xV0 154 178 = some (0, 150, 11) by decide +kernel)
theorem v154_182 {xs : List Int32} : xtV (xTa xs) 154 182 = some (0, 151, 11) := (show xlk xV0 154 182 = some (0, 151, 11) by decide +kernel)
theorem v154_186 {xs : List Int32} : xtV (xTa xs) 154 186 = some (0, 152, 11) := (show xlk xV0 154 186 = some (0, 152, 11) by decide +kernel)
theorem v155_174 {xs : List Int32} : xtV (xTa xs) 155 174 = some (0, 149, 11) := (show xlk xV0 155 174 = some (0, 149, 11) by decide +kernel)
theorem v155_178 {xs : List Int32} : xtV (xTa xs) 155 178 = some (0, 150, 11) := (show xlk xV0 155 178 = some (0, 150, 11) by decide +kernel)
theorem v155_182 {xs : List Int32} : xtV (xTa xs) 155 182 = some (0, 151, 11) := (show xlk xV0 155 182 = some (0, 151, 11) by decide +kernel)
theorem v156_190 {xs : List Int32} : xtV (xTa xs) 156 190 = some (0, 157, 11) := (show xlk xV0 156 190 = some (0, 157, 11) by decide +kernel)
theorem v157_194 {xs : List Int32} : xtV (xTa xs) 157 194 = some (0, 158, 11) := (show xlk xV0 157 194 = some (0, 158, 11) by decide +kernel)
theorem v159_194 {xs : List Int32} : xtV (xTa xs) 159 194 = some (0, 158, 11) := (show xlk xV0 159 194 = some (0, 158, 11) by decide +kernel)
theorem v160_198 {xs : List Int32} : xtV (xTa xs) 160 198 = some (0, 156, 11) := (show xlk xV0 160 198 = some (0, 156, 11) by decide +kernel)
theorem v161_165 {xs : List Int32} : xtV (xTa xs) 161 165 = some (4, 145, 11) := (show xlk xV0 161 165 = some (4, 145, 11) by decide +kernel)
theorem v161_168 {xs : List Int32} : xtV (xTa xs) 161 168 = some (4, 146, 11) := (show xlk xV0 161 168 = some (4, 146, 11) by decide +kernel)
theorem v161_171 {xs : List Int32} : xtV (xTa xs) 161 171 = some (4, 147, 11) := (show xlk xV0 161 171 = some (4, 147, 11) by decide +kernel)
theorem v162_171 {xs : List Int32} : xtV (xTa xs) 162 171 = some (4, 147, 11) := (show xlk xV0 162 171 = some (4, 147, 11) by decide +kernel)
theorem v162_202 {xs : List Int32} : xtV (xTa xs) 162 202 = some (4, 161, 11) := (show xlk xV0 162 202 = some (4, 161, 11) by decide +kernel)
theorem v163_205 {xs : List Int32} : xtV (xTa xs) 163 205 = some (4, 162, 11) := (show xlk xV0 163 205 = some (4, 162, 11) by decide +kernel)
theorem v164_165 {xs : List Int32} : xtV (xTa xs) 164 165 = some (4, 145, 11) := (show xlk xV0 164 165 = some (4, 145, 11) by decide +kernel)
theorem v164_168 {xs : List Int32} : xtV (xTa xs) 164 168 = some (4, 146, 11) := (show xlk xV0 164 168 = some (4, 146, 11) by decide +kernel)
theorem v164_190 {xs : List Int32} : xtV (xTa xs) 164 190 = some (0, 157, 11) := (show xlk xV0 164 190 = some (0, 157, 11) by decide +kernel)
theorem v164_205 {xs : List Int32} : xtV (xTa xs) 164 205 = some (4, 162, 11) := (show xlk xV0 164 205 = some (4, 162, 11) by decide +kernel)
theorem v164_209 {xs : List Int32} : xtV (xTa xs) 164 209 = some (0, 159, 11) := (show xlk xV0 164 209 = some (0, 159, 11) by decide +kernel)
theorem v165_161 {xs : List Int32} : xtV (xTa xs) 165 161 = some (0, 148, 11) := (show xlk xV0 165 161 = some (0, 148, 11) by decide +kernel)
theorem v165_212 {xs : List Int32} : xtV (xTa xs) 165 212 = some (4, 163, 11) := (show xlk xV0 165 212 = some (4, 163, 11) by decide +kernel)
theorem v165_215 {xs : List Int32} : xtV (xTa xs) 165 215 = some (0, 164, 11) := (show xlk xV0 165 215 = some (0, 164, 11) by decide +kernel)
theorem v168_227 {xs : List Int32} : xtV (xTa xs) 168 227 = some (0, 167, 11) := (show xlk xV0 168 227 = some (0, 167, 11) by decide +kernel)
theorem v169_227 {xs : List Int32} : xtV (xTa xs) 169 227 = some (0, 167, 11) := (show xlk xV0 169 227 = some (0, 167, 11) by decide +kernel)
theorem v170_227 {xs : List Int32} : xtV (xTa xs) 170 227 = some (0, 167, 11) := (show xlk xV0 170 227 = some (0, 167, 11) by decide +kernel)
theorem v171_154 {xs : List Int32} : xtV (xTa xs) 171 154 = some (4, 141, 11) := (show xlk xV0 171 154 = some (4, 141, 11) by decide +kernel)
theorem v171_212 {xs : List Int32} : xtV (xTa xs) 171 212 = some (4, 163, 11) := (show xlk xV0 171 212 = some (4, 163, 11) by decide +kernel)
theorem v171_227 {xs : List Int32} : xtV (xTa xs) 171 227 = some (0, 167, 11) := (show xlk xV0 171 227 = some (0, 167, 11) by decide +kernel)
theorem v171_234 {xs : List Int32} : xtV (xTa xs) 171 234 = some (0, 168, 11) := (show xlk xV0 171 234 = some (0, 168, 11) by decide +kernel)
theorem v171_255 {xs : List Int32} : xtV (xTa xs) 171 255 = some (0, 169, 11) := (show xlk xV0 171 255 = some (0, 169, 11) by decide +kernel)
theorem v172_227 {xs : List Int32} : xtV (xTa xs) 172 227 = some (0, 167, 11) := (show xlk xV0 172 227 = some (0, 167, 11) by decide +kernel)
theorem v172_258 {xs : List Int32} : xtV (xTa xs) 172 258 = some (0, 171, 11) := (show xlk xV0 172 258 = some (0, 171, 11) by decide +kernel)
theorem v175_255 {xs : List Int32} : xtV (xTa xs) 175 255 = some (0, 169, 11) := (show xlk xV0 175 255 = some (0, 169, 11) by decide +kernel)
theorem v175_264 {xs : List Int32} : xtV (xTa xs) 175 264 = some (0, 172, 11) := (show xlk xV0 175 264 = some (0, 172, 11) by decide +kernel)
theorem v175_267 {xs : List Int32} : xtV (xTa xs) 175 267 = some (0, 166, 11) := (show xlk xV0 175 267 = some (0, 166, 11) by decide +kernel)
theorem v175_271 {xs : List Int32} : xtV (xTa xs) 175 271 = some (0, 176, 11) := (show xlk xV0 175 271 = some (0, 176, 11) by decide +kernel)
theorem v176_227 {xs : List Int32} : xtV (xTa xs) 176 227 = some (0, 167, 11) := (show xlk xV0 176 227 = some (0, 167, 11) by decide +kernel)
theorem v176_258 {xs : List Int32} : xtV (xTa xs) 176 258 = some (0, 171, 11) := (show xlk xV0 176 258 = some (0, 171, 11) by decide +kernel)
theorem v176_274 {xs : List Int32} : xtV (xTa xs) 176 274 = some (0, 174, 11) := (show xlk xV0 176 274 = some (0, 174, 11) by decide +kernel)
theorem v177_154 {xs : List Int32} : xtV (xTa xs) 177 154 = some (4, 141, 11) := (show xlk xV0 177 154 = some (4, 141, 11) by decide +kernel)
theorem v177_227 {xs : List Int32} : xtV (xTa xs) 177 227 = some (0, 167, 11) := (show xlk xV0 177 227 = some (0, 167, 11) by decide +kernel)
theorem v177_255 {xs : List Int32} : xtV (xTa xs) 177 255 = some (0, 169, 11) := (show xlk xV0 177 255 = some (0, 169, 11) by decide +kernel)
theorem v177_267 {xs : List Int32} : xtV (xTa xs) 177 267 = some (0, 166, 11) := (show xlk xV0 177 267 = some (0, 166, 11) by decide +kernel)
theorem v177_285 {xs : List Int32} : xtV (xTa xs) 177 285 = some (0, 178, 11) := (show xlk xV0 177 285 = some (0, 178, 11) by decide +kernel)
theorem v177_289 {xs : List Int32} : xtV (xTa xs) 177 289 = some (0, 187, 11) := (show xlk xV0 177 289 = some (0, 187, 11) by decide +kernel)
theorem v177_292 {xs : List Int32} : xtV (xTa xs) 177 292 = some (0, 179, 11) := (show xlk xV0 177 292 = some (0, 179, 11) by decide +kernel)
theorem v177_295 {xs : List Int32} : xtV (xTa xs) 177 295 = some (0, 180, 11) := (show xlk xV0 177 295 = some (0, 180, 11) by decide +kernel)
theorem v177_298 {xs : List Int32} : xtV (xTa xs) 177 298 = some (0, 181, 11) := (show xlk xV0 177 298 = some (0, 181, 11) by decide +kernel)
theorem v178_227 {xs : List Int32} : xtV (xTa xs) 178 227 = some (0, 167, 11) := (show xlk xV0 178 227 = some (0, 167, 11) by decide +kernel)
theorem v179_227 {xs : List Int32} : xtV (xTa xs) 179 227 = some (0, 167, 11) := (show xlk xV0 179 227 = some (0, 167, 11) by decide +kernel)
theorem v180_267 {xs : List Int32} : xtV (xTa xs) 180 267 = some (0, 166, 11) := (show xlk xV0 180 267 = some (0, 166, 11) by decide +kernel)
theorem v180_274 {xs : List Int32} : xtV (xTa xs) 180 274 = some (0, 174, 11) := (show xlk xV0 180 274 = some (0, 174, 11) by decide +kernel)
theorem v180_301 {xs : List Int32} : xtV (xTa xs) 180 301 = some (0, 173, 11) := (show xlk xV0 180 301 = some (0, 173, 11) by decide +kernel)
theorem v180_305 {xs : List Int32} : xtV (xTa xs) 180 305 = some (0, 175, 11) := (show xlk xV0 180 305 = some (0, 175, 11) by decide +kernel)
theorem v181_234 {xs : List Int32} : xtV (xTa xs) 181 234 = some (0, 168, 11) := (show xlk xV0 181 234 = some (0, 168, 11) by decide +kernel)
theorem v181_264 {xs : List Int32} : xtV (xTa xs) 181 264 = some (0, 172, 11) := (show xlk xV0 181 264 = some (0, 172, 11) by decide +kernel)
theorem v181_267 {xs : List Int32} : xtV (xTa xs) 181 267 = some (0, 166, 11) := (show xlk xV0 181 267 = some (0, 166, 11) by decide +kernel)
theorem v181_274 {xs : List Int32} : xtV (xTa xs) 181 274 = some (0, 174, 11) := (show xlk xV0 181 274 = some (0, 174, 11) by decide +kernel)
theorem v181_301 {xs : List Int32} : xtV (xTa xs) 181 301 = some (0, 173, 11) := (show xlk xV0 181 301 = some (0, 173, 11) by decide +kernel)
theorem v181_305 {xs : List Int32} : xtV (xTa xs) 181 305 = some (0, 175, 11) := (show xlk xV0 181 305 = some (0, 175, 11) by decide +kernel)
theorem v181_315 {xs : List Int32} : xtV (xTa xs) 181 315 = some (0, 182, 11) := (show xlk xV0 181 315 = some (0, 182, 11) by decide +kernel)
theorem v182_227 {xs : List Int32} : xtV (xTa xs) 182 227 = some (0, 167, 11) := (show xlk xV0 182 227 = some (0, 167, 11) by decide +kernel)
theorem v182_255 {xs : List Int32} : xtV (xTa xs) 182 255 = some (0, 169, 11) := (show xlk xV0 182 255 = some (0, 169, 11) by decide +kernel)
theorem v182_285 {xs : List Int32} : xtV (xTa xs) 182 285 = some (0, 178, 11) := (show xlk xV0 182 285 = some (0, 178, 11) by decide +kernel)
theorem v182_292 {xs : List Int32} : xtV (xTa xs) 182 292 = some (0, 179, 11) := (show xlk xV0 182 292 = some (0, 179, 11) by decide +kernel)
theorem v183_234 {xs : List Int32} : xtV (xTa xs) 183 234 = some (0, 168, 11) := (show xlk xV0 183 234 = some (0, 168, 11) by decide +kernel)
theorem v185_227 {xs : List Int32} : xtV (xTa xs) 185 227 = some (0, 167, 11) := (show xlk xV0 185 227 = some (0, 167, 11) by decide +kernel)
theorem v186_154 {xs : List Int32} : xtV (xTa xs) 186 154 = some (4, 141, 11) := (show xlk xV0 186 154 = some (4, 141, 11) by decide +kernel)
theorem v186_171 {xs : List Int32} : xtV (xTa xs) 186 171 = some (4, 147, 11) := (show xlk xV0 186 171 = some (4, 147, 11) by decide +kernel)
theorem v186_205 {xs : List Int32} : xtV (xTa xs) 186 205 = some (4, 162, 11) := (show xlk xV0 186 205 = some (4, 162, 11) by decide +kernel)
theorem v186_212 {xs : List Int32} : xtV (xTa xs) 186 212 = some (4, 163, 11) := (show xlk xV0 186 212 = some (4, 163, 11) by decide +kernel)
theorem v186_227 {xs : List Int32} : xtV (xTa xs) 186 227 = some (0, 167, 11) := (show xlk xV0 186 227 = some (0, 167, 11) by decide +kernel)
theorem v187_255 {xs : List Int32} : xtV (xTa xs) 187 255 = some (0, 169, 11) := (show xlk xV0 187 255 = some (0, 169, 11) by decide +kernel)
theorem v187_267 {xs : List Int32} : xtV (xTa xs) 187 267 = some (0, 166, 11) := (show xlk xV0 187 267 = some (0, 166, 11) by decide +kernel)
theorem v187_274 {xs : List Int32} : xtV (xTa xs) 187 274 = some (0, 174, 11) := (show xlk xV0 187 274 = some (0, 174, 11) by decide +kernel)
theorem v187_301 {xs : List Int32} : xtV (xTa xs) 187 301 = some (0, 173, 11) := (show xlk xV0 187 301 = some (0, 173, 11) by decide +kernel)
theorem v187_305 {xs : List Int32} : xtV (xTa xs) 187 305 = some (0, 175, 11) := (show xlk xV0 187 305 = some (0, 175, 11) by decide +kernel)
theorem v187_329 {xs : List Int32} : xtV (xTa xs) 187 329 = some (0, 170, 11) := (show xlk xV0 187 329 = some (0, 170, 11) by decide +kernel)
theorem v187_332 {xs : List Int32} : xtV (xTa xs) 187 332 = some (0, 183, 11) := (show xlk xV0 187 332 = some (0, 183, 11) by decide +kernel)
theorem v187_335 {xs : List Int32} : xtV (xTa xs) 187 335 = some (0, 184, 11) := (show xlk xV0 187 335 = some (0, 184, 11) by decide +kernel)
theorem v187_338 {xs : List Int32} : xtV (xTa xs) 187 338 = some (0, 186, 11) := (show xlk xV0 187 338 = some (0, 186, 11) by decide +kernel)
theorem v187_341 {xs : List Int32} : xtV (xTa xs) 187 341 = some (0, 185, 11) := (show xlk xV0 187 341 = some (0, 185, 11) by decide +kernel)
theorem v189_161 {xs : List Int32} : xtV (xTa xs) 189 161 = some (0, 148, 11) := (show xlk xV0 189 161 = some (0, 148, 11) by decide +kernel)
theorem v189_344 {xs : List Int32} : xtV (xTa xs) 189 344 = some (0, 177, 11) := (show xlk xV0 189 344 = some (0, 177, 11) by decide +kernel)
theorem v189_350 {xs : List Int32} : xtV (xTa xs) 189 350 = some (0, 188, 11) := (show xlk xV0 189 350 = some (0, 188, 11) by decide +kernel)
theorem v191_161 {xs : List Int32} : xtV (xTa xs) 191 161 = some (0, 148, 11) := (show xlk xV0 191 161 = some (0, 148, 11) by decide +kernel)
theorem v192_161 {xs : List Int32} : xtV (xTa xs) 192 161 = some (0, 148, 11) := (show xlk xV0 192 161 = some (0, 148, 11) by decide +kernel)
theorem v192_198 {xs : List Int32} : xtV (xTa xs) 192 198 = some (0, 156, 11) := (show xlk xV0 192 198 = some (0, 156, 11) by decide +kernel)
theorem v192_353 {xs : List Int32} : xtV (xTa xs) 192 353 = some (0, 160, 11) := (show xlk xV0 192 353 = some (0, 160, 11) by decide +kernel)
theorem v193_154 {xs : List Int32} : xtV (xTa xs) 193 154 = some (4, 141, 11) := (show xlk xV0 193 154 = some (4, 141, 11) by decide +kernel)
theorem v193_161 {xs : List Int32} : xtV (xTa xs) 193 161 = some (0, 148, 11) := (show xlk xV0 193 161 = some (0, 148, 11) by decide +kernel)
theorem v194_154 {xs : List Int32} : xtV (xTa xs) 194 154 = some (4, 141, 11) := (show xlk xV0 194 154 = some (4, 141, 11) by decide +kernel)
theorem v194_161 {xs : List Int32} : xtV (xTa xs) 194 161 = some (0, 148, 11) := (show xlk xV0 194 161 = some (0, 148, 11) by decide +kernel)
theorem v194_215 {xs : List Int32} : xtV (xTa xs) 194 215 = some (0, 164, 11) := (show xlk xV0 194 215 = some (0, 164, 11) by decide +kernel)
theorem v196_359 {xs : List Int32} : xtV (xTa xs) 196 359 = some (0, 195, 11) := (show xlk xV0 196 359 = some (0, 195, 11) by decide +kernel)
theorem v198_359 {xs : List Int32} : xtV (xTa xs) 198 359 = some (0, 195, 11) := (show xlk xV0 198 359 = some (0, 195, 11) by decide +kernel)
theorem v199_368 {xs : List Int32} : xtV (xTa xs) 199 368 = some (0, 197, 11) := (show xlk xV0 199 368 = some (0, 197, 11) by decide +kernel)
theorem v199_371 {xs : List Int32} : xtV (xTa xs) 199 371 = some (0, 198, 11) := (show xlk xV0 199 371 = some (0, 198, 11) by decide +kernel)
theorem v200_359 {xs : List Int32} : xtV (xTa xs) 200 359 = some (0, 195, 11) := (show xlk xV0 200 359 = some (0, 195, 11) by decide +kernel)
theorem v200_374 {xs : List Int32} : xtV (xTa xs) 200 374 = some (0, 201, 11) := (show xlk xV0 200 374 = some (0, 201, 11) by decide +kernel)
theorem v201_359 {xs : List Int32} : xtV (xTa xs) 201 359 = some (0, 195, 11) := (show xlk xV0 201 359 = some (0, 195, 11) by decide +kernel)
theorem v204_383 {xs : List Int32} : xtV (xTa xs) 204 383 = some (0, 203, 11) := (show xlk xV0 204 383 = some (0, 203, 11) by decide +kernel)
theorem v205_383 {xs : List Int32} : xtV (xTa xs) 205 383 = some (0, 203, 11) := (show xlk xV0 205 383 = some (0, 203, 11) by decide +kernel)
theorem v206_383 {xs : List Int32} : xtV (xTa xs) 206 383 = some (0, 203, 11) := (show xlk xV0 206 383 = some (0, 203, 11) by decide +kernel)
theorem v207_215 {xs : List Int32} : xtV (xTa xs) 207 215 = some (0, 164, 11) := (show xlk xV0 207 215 = some (0, 164, 11) by decide +kernel)
theorem v207_383 {xs : List Int32} : xtV (xTa xs) 207 383 = some (0, 203, 11) := (show xlk xV0 207 383 = some (0, 203, 11) by decide +kernel)
theorem v207_389 {xs : List Int32} : xtV (xTa xs) 207 389 = some (0, 202, 11) := (show xlk xV0 207 389 = some (0, 202, 11) by decide +kernel)
theorem v207_392 {xs : List Int32} : xtV (xTa xs) 207 392 = some (0, 205, 11) := (show xlk xV0 207 392 = some (0, 205, 11) by decide +kernel)
theorem v207_396 {xs : List Int32} : xtV (xTa xs) 207 396 = some (0, 204, 11) := (show xlk xV0 207 396 = some (0, 204, 11) by decide +kernel)
theorem v207_399 {xs : List Int32} : xtV (xTa xs) 207 399 = some (0, 206, 11) := (show xlk xV0 207 399 = some (0, 206, 11) by decide +kernel)
theorem v210_402 {xs : List Int32} : xtV (xTa xs) 210 402 = some (0, 208, 11) := (show xlk xV0 210 402 = some (0, 208, 11) by decide +kernel)
theorem v210_405 {xs : List Int32} : xtV (xTa xs) 210 405 = some (0, 209, 11) := (show xlk xV0 210 405 = some (0, 209, 11) by decide +kernel)
theorem v211_359 {xs : List Int32} : xtV (xTa xs) 211 359 = some (0, 195, 11) := (show xlk xV0 211 359 = some (0, 195, 11) by decide +kernel)
theorem v211_368 {xs : List Int32} : xtV (xTa xs) 211 368 = some (0, 197, 11) := (show xlk xV0 211 368 = some (0, 197, 11) by decide +kernel)
theorem v211_371 {xs : List Int32} : xtV (xTa xs) 211 371 = some (0, 198, 11) := (show xlk xV0 211 371 = some (0, 198, 11) by decide +kernel)
theorem v211_402 {xs : List Int32} : xtV (xTa xs) 211 402 = some (0, 208, 11) := (show xlk xV0 211 402 = some (0, 208, 11) by decide +kernel)
theorem v211_408 {xs : List Int32} : xtV (xTa xs) 211 408 = some (0, 207, 11) := (show xlk xV0 211 408 = some (0, 207, 11) by decide +kernel)
theorem v211_411 {xs : List Int32} : xtV (xTa xs) 211 411 = some (0, 210, 11) := (show xlk xV0 211 411 = some (0, 210, 11) by decide +kernel)
theorem v212_198 {xs : List Int32} : xtV (xTa xs) 212 198 = some (0, 156, 11) := (show xlk xV0 212 198 = some (0, 156, 11) by decide +kernel)
theorem v212_353 {xs : List Int32} : xtV (xTa xs) 212 353 = some (0, 160, 11) := (show xlk xV0 212 353 = some (0, 160, 11) by decide +kernel)
theorem v213_421 {xs : List Int32} : xtV (xTa xs) 213 421 = some (0, 199, 11) := (show xlk xV0 213 421 = some (0, 199, 11) by decide +kernel)
theorem v213_424 {xs : List Int32} : xtV (xTa xs) 213 424 = some (0, 211, 11) := (show xlk xV0 213 424 = some (0, 211, 11) by decide +kernel)
theorem v214_154 {xs : List Int32} : xtV (xTa xs) 214 154 = some (4, 141, 11) := (show xlk xV0 214 154 = some (4, 141, 11) by decide +kernel)
theorem v214_161 {xs : List Int32} : xtV (xTa xs) 214 161 = some (0, 148, 11) := (show xlk xV0 214 161 = some (0, 148, 11) by decide +kernel)
theorem v214_353 {xs : List Int32} : xtV (xTa xs) 214 353 = some (0, 160, 11) := (show xlk xV0 214 353 = some (0, 160, 11) by decide +kernel)
theorem v214_359 {xs : List Int32} : xtV (xTa xs) 214 359 = some (0, 195, 11) := (show xlk xV0 214 359 = some (0, 195, 11) by decide +kernel)
theorem v214_368 {xs : List Int32} : xtV (xTa xs) 214 368 = some (0, 197, 11) := (show xlk xV0 214 368 = some (0, 197, 11) by decide +kernel)
theorem v214_371 {xs : List Int32} : xtV (xTa xs) 214 371 = some (0, 198, 11) := (show xlk xV0 214 371 = some (0, 198, 11) by decide +kernel)
theorem v214_421 {xs : List Int32} : xtV (xTa xs) 214 421 = some (0, 199, 11) := (show xlk xV0 214 421 = some (0, 199, 11) by decide +kernel)
theorem v214_424 {xs : List Int32} : xtV (xTa xs) 214 424 = some (0, 211, 11) := (show xlk xV0 214 424 = some (0, 211, 11) by decide +kernel)
theorem v214_427 {xs : List Int32} : xtV (xTa xs) 214 427 = some (0, 200, 11) := (show xlk xV0 214 427 = some (0, 200, 11) by decide +kernel)
theorem v214_430 {xs : List Int32} : xtV (xTa xs) 214 430 = some (0, 212, 11) := (show xlk xV0 214 430 = some (0, 212, 11) by decide +kernel)
theorem v214_433 {xs : List Int32} : xtV (xTa xs) 214 433 = some (0, 213, 11) := (show xlk xV0 214 433 = some (0, 213, 11) by decide +kernel)
theorem v214_437 {xs : List Int32} : xtV (xTa xs) 214 437 = some (0, 196, 11) := (show xlk xV0 214 437 = some (0, 196, 11) by decide +kernel)
theorem v216_154 {xs : List Int32} : xtV (xTa xs) 216 154 = some (4, 141, 11) := (show xlk xV0 216 154 = some (4, 141, 11) by decide +kernel)
theorem v217_154 {xs : List Int32} : xtV (xTa xs) 217 154 = some (4, 141, 11) := (show xlk xV0 217 154 = some (4, 141, 11) by decide +kernel)
theorem v218_154 {xs : List Int32} : xtV (xTa xs) 218 154 = some (4, 141, 11) := (show xlk xV0 218 154 = some (4, 141, 11) by decide +kernel)
theorem v220_458 {xs : List Int32} : xtV (xTa xs) 220 458 = some (0, 221, 11) := (show xlk xV0 220 458 = some (0, 221, 11) by decide +kernel)
theorem v222_215 {xs : List Int32} : xtV (xTa xs) 222 215 = some (0, 164, 11) := (show xlk xV0 222 215 = some (0, 164, 11) by decide +kernel)
theorem v222_462 {xs : List Int32} : xtV (xTa xs) 222 462 = some (0, 219, 11) := (show xlk xV0 222 462 = some (0, 219, 11) by decide +kernel)
theorem v223_198 {xs : List Int32} : xtV (xTa xs) 223 198 = some (0, 156, 11) := (show xlk xV0 223 198 = some (0, 156, 11) by decide +kernel)
theorem v223_458 {xs : List Int32} : xtV (xTa xs) 223 458 = some (0, 221, 11) := (show xlk xV0 223 458 = some (0, 221, 11) by decide +kernel)
theorem v224_161 {xs : List Int32} : xtV (xTa xs) 224 161 = some (0, 148, 11) := (show xlk xV0 224 161 = some (0, 148, 11) by decide +kernel)
theorem v224_198 {xs : List Int32} : xtV (xTa xs) 224 198 = some (0, 156, 11) := (show xlk xV0 224 198 = some (0, 156, 11) by decide +kernel)
theorem v224_353 {xs : List Int32} : xtV (xTa xs) 224 353 = some (0, 160, 11) := (show xlk xV0 224 353 = some (0, 160, 11) by decide +kernel)
theorem v224_462 {xs : List Int32} : xtV (xTa xs) 224 462 = some (0, 219, 11) := (show xlk xV0 224 462 = some (0, 219, 11) by decide +kernel)
theorem v224_465 {xs : List Int32} : xtV (xTa xs) 224 465 = some (0, 222, 11) := (show xlk xV0 224 465 = some (0, 222, 11) by decide +kernel)
theorem v224_468 {xs : List Int32} : xtV (xTa xs) 224 468 = some (0, 220, 11) := (show xlk xV0 224 468 = some (0, 220, 11) by decide +kernel)
theorem v224_471 {xs : List Int32} : xtV (xTa xs) 224 471 = some (0, 223, 11) := (show xlk xV0 224 471 = some (0, 223, 11) by decide +kernel)
theorem v225_154 {xs : List Int32} : xtV (xTa xs) 225 154 = some (4, 141, 11) := (show xlk xV0 225 154 = some (4, 141, 11) by decide +kernel)
theorem v227_335 {xs : List Int32} : xtV (xTa xs) 227 335 = some (9, 229, 0) := (show xlk xV0 227 335 = some (9, 229, 0) by decide +kernel)
theorem v228_492 {xs : List Int32} : xtV (xTa xs) 228 492 = some (9, 230, 0) := (show xlk xV0 228 492 = some (9, 230, 0) by decide +kernel)
theorem v228_495 {xs : List Int32} : xtV (xTa xs) 228 495 = some (4, 232, 0) := (show xlk xV0 228 495 = some (4, 232, 0) by decide +kernel)
theorem v231_1059 {xs : List Int32} : xtV (xTa xs) 231 1059 = some (4, 233, 0) := (show xlk xV0 231 1059 = some (4, 233, 0) by decide +kernel)
theorem v232_9 {xs : List Int32} : xtV (xTa xs) 232 9 = some (4, 231, 0) := (show xlk xV0 232 9 = some (4, 231, 0) by decide +kernel)
theorem v234_9 {xs : List Int32} : xtV (xTa xs) 234 9 = some (2, 111, 10) := (show xlk xV0 234 9 = some (2, 111, 10) by decide +kernel)
theorem v234_12 {xs : List Int32} : xtV (xTa xs) 234 12 = some (2, 140, 11) := (show xlk xV0 234 12 = some (2, 140, 11) by decide +kernel)
theorem v234_13 {xs : List Int32} : xtV (xTa xs) 234 13 = some (0, 112, 10) := (show xlk xV0 234 13 = some (0, 112, 10) by decide +kernel)
theorem v234_17 {xs : List Int32} : xtV (xTa xs) 234 17 = some (0, 143, 11) := (show xlk xV0 234 17 = some (0, 143, 11) by decide +kernel)
theorem v234_18 {xs : List Int32} : xtV (xTa xs) 234 18 = some (0, 113, 10) := (show xlk xV0 234 18 = some (0, 113, 10) by decide +kernel)
theorem v234_22 {xs : List Int32} : xtV (xTa xs) 234 22 = some (0, 144, 11) := (show xlk xV0 234 22 = some (0, 144, 11) by decide +kernel)
theorem v234_23 {xs : List Int32} : xtV (xTa xs) 234 23 = some (0, 114, 10) := (show xlk xV0 234 23 = some (0, 114, 10) by decide +kernel)
theorem v234_26 {xs : List Int32} : xtV (xTa xs) 234 26 = some (0, 153, 11) := (show xlk xV0 234 26 = some (0, 153, 11) by decide +kernel)
theorem v234_27 {xs : List Int32} : xtV (xTa xs) 234 27 = some (0, 115, 10) := (show xlk xV0 234 27 = some (0, 115, 10) by decide +kernel)
theorem v234_31 {xs : List Int32} : xtV (xTa xs) 234 31 = some (0, 154, 11) := (show xlk xV0 234 31 = some (0, 154, 11) by decide +kernel)
theorem v234_32 {xs : List Int32} : xtV (xTa xs) 234 32 = some (0, 116, 10) := (show xlk xV0 234 32 = some (0, 116, 10) by decide +kernel)
theorem v234_35 {xs : List Int32} : xtV (xTa xs) 234 35 = some (0, 155, 11) := (show xlk xV0 234 35 = some (0, 155, 11) by decide +kernel)
theorem v234_36 {xs : List Int32} : xtV (xTa xs) 234 36 = some (0, 117, 10) := (show xlk xV0 234 36 = some (0, 117, 10) by decide +kernel)
theorem v234_39 {xs : List Int32} : xtV (xTa xs) 234 39 = some (0, 189, 11) := (show xlk xV0 234 39 = some (0, 189, 11) by decide +kernel)
theorem v234_40 {xs : List Int32} : xtV (xTa xs) 234 40 = some (0, 119, 10) := (show xlk xV0 234 40 = some (0, 119, 10) by decide +kernel)
theorem v234_44 {xs : List Int32} : xtV (xTa xs) 234 44 = some (0, 190, 11) := (show xlk xV0 234 44 = some (0, 190, 11) by decide +kernel)
theorem v234_45 {xs : List Int32} : xtV (xTa xs) 234 45 = some (0, 120, 10) := (show xlk xV0 234 45 = some (0, 120, 10) by decide +kernel)
theorem v234_48 {xs : List Int32} : xtV (xTa xs) 234 48 = some (0, 191, 11) := (show xlk xV0 234 48 = some (0, 191, 11) by decide +kernel)
theorem v234_49 {xs : List Int32} : xtV (xTa xs) 234 49 = some (0, 121, 10) := (show xlk xV0 234 49 = some (0, 121, 10) by decide +kernel)
theorem v234_53 {xs : List Int32} : xtV (xTa xs) 234 53 = some (0, 192, 11) := (show xlk xV0 234 53 = some (0, 192, 11) by decide +kernel)
theorem v234_54 {xs : List Int32} : xtV (xTa xs) 234 54 = some (0, 122, 10) := (show xlk xV0 234 54 = some (0, 122, 10) by decide +kernel)
theorem v234_58 {xs : List Int32} : xtV (xTa xs) 234 58 = some (0, 193, 11) := (show xlk xV0 234 58 = some (0, 193, 11) by decide +kernel)
theorem v234_59 {xs : List Int32} : xtV (xTa xs) 234 59 = some (0, 123, 10) := (show xlk xV0 234 59 = some (0, 123, 10) by decide +kernel)
theorem v234_62 {xs : List Int32} : xtV (xTa xs) 234 62 = some (0, 194, 11) := (show xlk xV0 234 62 = some (0, 194, 11) by decide +kernel)
theorem v234_63 {xs : List Int32} : xtV (xTa xs) 234 63 = some (0, 124, 10) := (show xlk xV0 234 63 = some (0, 124, 10) by decide +kernel)
theorem v234_66 {xs : List Int32} : xtV (xTa xs) 234 66 = some (0, 165, 11) := (show xlk xV0 234 66 = some (0, 165, 11) by decide +kernel)
theorem v234_67 {xs : List Int32} : xtV (xTa xs) 234 67 = some (0, 125, 10) := (show xlk xV0 234 67 = some (0, 125, 10) by decide +kernel)
theorem v234_70 {xs : List Int32} : xtV (xTa xs) 234 70 = some (0, 214, 11) := (show xlk xV0 234 70 = some (0, 214, 11) by decide +kernel)
theorem v234_71 {xs : List Int32} : xtV (xTa xs) 234 71 = some (0, 126, 10) := (show xlk xV0 234 71 = some (0, 126, 10) by decide +kernel)
theorem v234_74 {xs : List Int32} : xtV (xTa xs) 234 74 = some (0, 215, 11) := (show xlk xV0 234 74 = some (0, 215, 11) by decide +kernel)
theorem v234_75 {xs : List Int32} : xtV (xTa xs) 234 75 = some (0, 127, 10) := (show xlk xV0 234 75 = some (0, 127, 10) by decide +kernel)
theorem v234_78 {xs : List Int32} : xtV (xTa xs) 234 78 = some (0, 216, 11) := (show xlk xV0 234 78 = some (0, 216, 11) by decide +kernel)
theorem v234_79 {xs : List Int32} : xtV (xTa xs) 234 79 = some (0, 128, 10) := (show xlk xV0 234 79 = some (0, 128, 10) by decide +kernel)
theorem v234_82 {xs : List Int32} : xtV (xTa xs) 234 82 = some (0, 217, 11) := (show xlk xV0 234 82 = some (0, 217, 11) by decide +kernel)
theorem v234_83 {xs : List Int32} : xtV (xTa xs) 234 83 = some (0, 129, 10) := (show xlk xV0 234 83 = some (0, 129, 10) by decide +kernel)
theorem v234_86 {xs : List Int32} : xtV (xTa xs) 234 86 = some (0, 218, 11) := (show xlk xV0 234 86 = some (0, 218, 11) by decide +kernel)
theorem v234_87 {xs : List Int32} : xtV (xTa xs) 234 87 = some (0, 130, 10) := (show xlk xV0 234 87 = some (0, 130, 10) by decide +kernel)
theorem v234_90 {xs : List Int32} : xtV (xTa xs) 234 90 = some (0, 224, 11) := (show xlk xV0 234 90 = some (0, 224, 11) by decide +kernel)
theorem v234_91 {xs : List Int32} : xtV (xTa xs) 234 91 = some (0, 131, 10) := (show xlk xV0 234 91 = some (0, 131, 10) by decide +kernel)
theorem v234_94 {xs : List Int32} : xtV (xTa xs) 234 94 = some (0, 225, 11) := (show xlk xV0 234 94 = some (0, 225, 11) by decide +kernel)
theorem v234_95 {xs : List Int32} : xtV (xTa xs) 234 95 = some (0, 132, 10) := (show xlk xV0 234 95 = some (0, 132, 10) by decide +kernel)
theorem v234_98 {xs : List Int32} : xtV (xTa xs) 234 98 = some (0, 226, 11) := (show xlk xV0 234 98 = some (0, 226, 11) by decide +kernel)
theorem c3_9 {xs : List Int32} : xtC (xTa xs) 3 9 = some 9 := (show xlk xC0 3 9 = some 9 by decide +kernel)
theorem c3_20 {xs : List Int32} : xtC (xTa xs) 3 20 = some 0 := (show xlk xC0 3 20 = some 0 by decide +kernel)
theorem c3_27 {xs : List Int32} : xtC (xTa xs) 3 27 = some 6 := (show xlk xC0 3 27 = some 6 by decide +kernel)
theorem c11_26 {xs : List Int32} : xtC (xTa xs) 11 26 = some 9 := (show xlk xC0 11 26 = some 9 by decide +kernel)
theorem c17_26 {xs : List Int32} : xtC (xTa xs) 17 26 = some 9 := (show xlk xC0 17 26 = some 9 by decide +kernel)
theorem c18_17 {xs : List Int32} : xtC (xTa xs) 18 17 = some 9 := (show xlk xC0 18 17 = some 9 by decide +kernel)
theorem c50_9 {xs : List Int32} : xtC (xTa xs) 50 9 = some 9 := (show xlk xC0 50 9 = some 9 by decide +kernel)
theorem c60_9 {xs : List Int32} : xtC (xTa xs) 60 9 = some 9 := (show xlk xC0 60 9 = some 9 by decide +kernel)
theorem c82_9 {xs : List Int32} : xtC (xTa xs) 82 9 = some 2 := (show xlk xC0 82 9 = some 2 by decide +kernel)
theorem c111_7 {xs : List Int32} : xtC (xTa xs) 111 7 = some 9 := (show xlk xC0 111 7 = some 9 by decide +kernel)
theorem c111_18 {xs : List Int32} : xtC (xTa xs) 111 18 = some 8 := (show xlk xC0 111 18 = some 8 by decide +kernel)
theorem c111_25 {xs : List Int32} : xtC (xTa xs) 111 25 = some 7 := (show xlk xC0 111 25 = some 7 by decide +kernel)
theorem c111_32 {xs : List Int32} : xtC (xTa xs) 111 32 = some 3 := (show xlk xC0 111 32 = some 3 by decide +kernel)
theorem c111_39 {xs : List Int32} : xtC (xTa xs) 111 39 = some 4 := (show xlk xC0 111 39 = some 4 by decide +kernel)
theorem c111_46 {xs : List Int32} : xtC (xTa xs) 111 46 = some 1 := (show xlk xC0 111 46 = some 1 by decide +kernel)
theorem c111_53 {xs : List Int32} : xtC (xTa xs) 111 53 = some 5 := (show xlk xC0 111 53 = some 5 by decide +kernel)
theorem c118_46 {xs : List Int32} : xtC (xTa xs) 118 46 = some 1 := (show xlk xC0 118 46 = some 1 by decide +kernel)
theorem c234_7 {xs : List Int32} : xtC (xTa xs) 234 7 = some 10 := (show xlk xC0 234 7 = some 10 by decide +kernel)
theorem c234_10 {xs : List Int32} : xtC (xTa xs) 234 10 = some 11 := (show xlk xC0 234 10 = some 11 by decide +kernel)
theorem a3_20 {xs : List Int32} : xtA (xTa xs) 3 20 = some 15 := (show xlk xA0 3 20 = some 15 by decide +kernel)
theorem a3_27 {xs : List Int32} : xtA (xTa xs) 3 27 = some 17 := (show xlk xA0 3 27 = some 17 by decide +kernel)
theorem a11_26 {xs : List Int32} : xtA (xTa xs) 11 26 = some 18 := (show xlk xA0 11 26 = some 18 by decide +kernel)
theorem a18_9 {xs : List Int32} : xtA (xTa xs) 18 9 = some 15 := (show xlk xA0 18 9 = some 15 by decide +kernel)
theorem a50_24 {xs : List Int32} : xtA (xTa xs) 50 24 = some 16 := (show xlk xA0 50 24 = some 16 by decide +kernel)
theorem a81_9 {xs : List Int32} : xtA (xTa xs) 81 9 = some 16 := (show xlk xA0 81 9 = some 16 by decide +kernel)
theorem w168_230 {xs : List Int32} : xtJ (xTa xs) 168 230 = some 255 := (show xlk xJ0 168 230 = some 255 by decide +kernel)
theorem w171_232 {xs : List Int32} : xtJ (xTa xs) 171 232 = some 135667000829216 := (show xlk xJ0 171 232 = some 135667000829216 by decide +kernel)
theorem w171_247 {xs : List Int32} : xtJ (xTa xs) 171 247 = some 135705555528480 := (show xlk xJ0 171 247 = some 135705555528480 by decide +kernel)
theorem w181_308 {xs : List Int32} : xtJ (xTa xs) 181 308 = some 8892760333877406068 := (show xlk xJ0 181 308 = some 8892760333877406068 by decide +kernel)
theorem w181_310 {xs : List Int32} : xtJ (xTa xs) 181 310 = some 125 := (show xlk xJ0 181 310 = some 125 by decide +kernel)
theorem w183_319 {xs : List Int32} : xtJ (xTa xs) 183 319 = some 482671223149 := (show xlk xJ0 183 319 = some 482671223149 by decide +kernel)
theorem w183_321 {xs : List Int32} : xtJ (xTa xs) 183 321 = some 125780071117422 := (show xlk xJ0 183 321 = some 125780071117422 by decide +kernel)
theorem w183_323 {xs : List Int32} : xtJ (xTa xs) 183 323 = some 127991945328499 := (show xlk xJ0 183 323 = some 127991945328499 by decide +kernel)
theorem w183_325 {xs : List Int32} : xtJ (xTa xs) 183 325 = some 7562597 := (show xlk xJ0 183 325 = some 7562597 by decide +kernel)
theorem w183_327 {xs : List Int32} : xtJ (xTa xs) 183 327 = some 495690081125 := (show xlk xJ0 183 327 = some 495690081125 by decide +kernel)
theorem w205_230 {xs : List Int32} : xtJ (xTa xs) 205 230 = some 255 := (show xlk xJ0 205 230 = some 255 by decide +kernel)
theorem w207_319 {xs : List Int32} : xtJ (xTa xs) 207 319 = some 482671223149 := (show xlk xJ0 207 319 = some 482671223149 by decide +kernel)
theorem w207_321 {xs : List Int32} : xtJ (xTa xs) 207 321 = some 125780071117422 := (show xlk xJ0 207 321 = some 125780071117422 by decide +kernel)
theorem w207_323 {xs : List Int32} : xtJ (xTa xs) 207 323 = some 127991945328499 := (show xlk xJ0 207 323 = some 127991945328499 by decide +kernel)
theorem w207_325 {xs : List Int32} : xtJ (xTa xs) 207 325 = some 7562597 := (show xlk xJ0 207 325 = some 7562597 by decide +kernel)
theorem w207_327 {xs : List Int32} : xtJ (xTa xs) 207 327 = some 495690081125 := (show xlk xJ0 207 327 = some 495690081125 by decide +kernel)
theorem s69_132 {xs : List Int32} : xtS (xTa xs) 69 132 = some 0 := (show xlk xS0 69 132 = some 0 by decide +kernel)
theorem s74_193 {xs : List Int32} : xtS (xTa xs) 74 193 = some 1 := (show xlk xS0 74 193 = some 1 by decide +kernel)
theorem s74_199 {xs : List Int32} : xtS (xTa xs) 74 199 = some 2 := (show xlk xS0 74 199 = some 2 by decide +kernel)
theorem s78_193 {xs : List Int32} : xtS (xTa xs) 78 193 = some 1 := (show xlk xS0 78 193 = some 1 by decide +kernel)
theorem s79_199 {xs : List Int32} : xtS (xTa xs) 79 199 = some 2 := (show xlk xS0 79 199 = some 2 by decide +kernel)
theorem s139_296 {xs : List Int32} : xtS (xTa xs) 139 296 = some 3 := (show xlk xS0 139 296 = some 3 by decide +kernel)
theorem s139_298 {xs : List Int32} : xtS (xTa xs) 139 298 = some 4 := (show xlk xS0 139 298 = some 4 by decide +kernel)
theorem s139_300 {xs : List Int32} : xtS (xTa xs) 139 300 = some 5 := (show xlk xS0 139 300 = some 5 by decide +kernel)
theorem s139_302 {xs : List Int32} : xtS (xTa xs) 139 302 = some 6 := (show xlk xS0 139 302 = some 6 by decide +kernel)
theorem s139_304 {xs : List Int32} : xtS (xTa xs) 139 304 = some 7 := (show xlk xS0 139 304 = some 7 by decide +kernel)
theorem s139_306 {xs : List Int32} : xtS (xTa xs) 139 306 = some 8 := (show xlk xS0 139 306 = some 8 by decide +kernel)
theorem m0 {xs : List Int32} : xtM (xTa xs) 0 = some (⟨RX0, "<init>", "()V"⟩, prog_2_method_1_code, 1, none, 0) := rfl
theorem m1 {xs : List Int32} : xtM (xTa xs) 1 = some (⟨RX0, "isLink", "()Z"⟩, prog_2_method_2_code, 1, (some FieldType.boolean), 0) := rfl
theorem m2 {xs : List Int32} : xtM (xTa xs) 2 = some (⟨RX0, "hasNoPieces", "()Z"⟩, prog_2_method_3_code, 1, (some FieldType.boolean), 0) := rfl
theorem m3 {xs : List Int32} : xtM (xTa xs) 3 = some (⟨RX1, "<init>", "()V"⟩, prog_3_method_1_code, 2, none, 0) := rfl
theorem m4 {xs : List Int32} : xtM (xTa xs) 4 = some (⟨RX1, "begin", "(LDocFormat$Text;LDocFormat$Entry;)V"⟩, prog_3_method_2_code, 3, none, 2) := rfl
theorem m5 {xs : List Int32} : xtM (xTa xs) 5 = some (⟨RX1, "blockAt", "(I)LDocFormat$Block;"⟩, prog_3_method_3_code, 2, (some (FieldType.object "DocFormat$Block")), 1) := rfl
theorem m6 {xs : List Int32} : xtM (xTa xs) 6 = some (⟨RX1, "pieceAt", "(I)LDocFormat$Piece;"⟩, prog_3_method_4_code, 2, (some (FieldType.object "DocFormat$Piece")), 1) := rfl
theorem m7 {xs : List Int32} : xtM (xTa xs) 7 = some (⟨RX1, "addBlock", "(II)LDocFormat$Block;"⟩, prog_3_method_5_code, 4, (some (FieldType.object "DocFormat$Block")), 2) := rfl
theorem m8 {xs : List Int32} : xtM (xTa xs) 8 = some (⟨RX1, "addPiece", "(II)LDocFormat$Piece;"⟩, prog_3_method_6_code, 4, (some (FieldType.object "DocFormat$Piece")), 2) := rfl
theorem m9 {xs : List Int32} : xtM (xTa xs) 9 = some (⟨RX1, "blockOf", "(I)LDocFormat$Block;"⟩, prog_3_method_7_code, 3, (some (FieldType.object "DocFormat$Block")), 1) := rfl
theorem m10 {xs : List Int32} : xtM (xTa xs) 10 = some (⟨RX1, "hasParam", "(LDocFormat$Text;)Z"⟩, prog_3_method_8_code, 4, (some FieldType.boolean), 1) := rfl
theorem m11 {xs : List Int32} : xtM (xTa xs) 11 = some (⟨RX2, "<init>", "(ILDocFormat$Entry;LDocFormat$Entry;Z)V"⟩, prog_4_method_1_code, 5, none, 4) := rfl
theorem m12 {xs : List Int32} : xtM (xTa xs) 12 = some (⟨RX2, "isType", "()Z"⟩, prog_4_method_2_code, 1, (some FieldType.boolean), 0) := rfl
theorem m13 {xs : List Int32} : xtM (xTa xs) 13 = some (⟨RX2, "nearestType", "()LDocFormat$Entry;"⟩, prog_4_method_3_code, 1, (some (FieldType.object "DocFormat$Entry")), 0) := rfl
theorem m14 {xs : List Int32} : xtM (xTa xs) 14 = some (⟨RX2, "ownComment", "()LDocFormat$Comment;"⟩, prog_4_method_4_code, 1, (some (FieldType.object "DocFormat$Comment")), 0) := rfl
theorem m15 {xs : List Int32} : xtM (xTa xs) 15 = some (⟨RX2, "parameterAt", "(I)LDocFormat$Text;"⟩, prog_4_method_5_code, 2, (some (FieldType.object "DocFormat$Text")), 1) := rfl
theorem m16 {xs : List Int32} : xtM (xTa xs) 16 = some (⟨RX2, "hasParameter", "(LDocFormat$Text;II)Z"⟩, prog_4_method_6_code, 6, (some FieldType.boolean), 3) := rfl
theorem m17 {xs : List Int32} : xtM (xTa xs) 17 = some (⟨RX2, "addParameter", "(LDocFormat$Text;)I"⟩, prog_4_method_7_code, 3, (some FieldType.int), 1) := rfl
theorem m18 {xs : List Int32} : xtM (xTa xs) 18 = some (⟨RX3, "<init>", "()V"⟩, prog_5_method_1_code, 1, none, 0) := rfl
theorem m19 {xs : List Int32} : xtM (xTa xs) 19 = some (⟨RX3, "clearPlan", "()V"⟩, prog_5_method_2_code, 1, none, 0) := rfl
theorem m20 {xs : List Int32} : xtM (xTa xs) 20 = some (⟨RX3, "planStory", "(LDocFormat$Register;LDocFormat$Entry;I)V"⟩, prog_5_method_3_code, 7, none, 3) := rfl
theorem m21 {xs : List Int32} : xtM (xTa xs) 21 = some (⟨RX3, "planTags", "(LDocFormat$Entry;)V"⟩, prog_5_method_4_code, 6, none, 1) := rfl
theorem m22 {xs : List Int32} : xtM (xTa xs) 22 = some (⟨RX3, "planBlock", "(LDocFormat$Block;)V"⟩, prog_5_method_5_code, 2, none, 1) := rfl
theorem m23 {xs : List Int32} : xtM (xTa xs) 23 = some (⟨RX3, "resolvePlan", "(LDocFormat$Register;)V"⟩, prog_5_method_6_code, 4, none, 1) := rfl
theorem m24 {xs : List Int32} : xtM (xTa xs) 24 = some (⟨RX3, "compose", "(LDocFormat$Page;LDocFormat$Entry;II)V"⟩, prog_5_method_7_code, 8, none, 4) := rfl
theorem m25 {xs : List Int32} : xtM (xTa xs) 25 = some (⟨RX3, "isApart", "(LDocFormat$Block;LDocFormat$Block;)Z"⟩, prog_5_method_8_code, 2, (some FieldType.boolean), 2) := rfl
theorem m26 {xs : List Int32} : xtM (xTa xs) 26 = some (⟨RX3, "putTargets", "(LDocFormat$Page;)V"⟩, prog_5_method_9_code, 4, none, 1) := rfl
theorem m27 {xs : List Int32} : xtM (xTa xs) 27 = some (⟨RX3, "addMark", "(LDocFormat$Text;I)V"⟩, prog_5_method_10_code, 2, none, 2) := rfl
theorem m28 {xs : List Int32} : xtM (xTa xs) 28 = some (⟨RX3, "layOut", "(LDocFormat$Page;LDocFormat$Block;I)V"⟩, prog_5_method_11_code, 6, none, 3) := rfl
theorem m29 {xs : List Int32} : xtM (xTa xs) 29 = some (⟨RX3, "cutInChunks", "(LDocFormat$Page;LDocFormat$Block;)V"⟩, prog_5_method_12_code, 6, none, 2) := rfl
theorem m30 {xs : List Int32} : xtM (xTa xs) 30 = some (⟨RX3, "cutTagHead", "(LDocFormat$Page;LDocFormat$Block;LDocFormat$Text;)V"⟩, prog_5_method_13_code, 4, none, 3) := rfl
theorem m31 {xs : List Int32} : xtM (xTa xs) 31 = some (⟨RX3, "beginChunk", "()V"⟩, prog_5_method_14_code, 1, none, 0) := rfl
theorem m32 {xs : List Int32} : xtM (xTa xs) 32 = some (⟨RX3, "closeChunk", "()V"⟩, prog_5_method_15_code, 1, none, 0) := rfl
theorem m33 {xs : List Int32} : xtM (xTa xs) 33 = some (⟨RX3, "columns", "(II)I"⟩, prog_5_method_16_code, 4, (some FieldType.int), 2) := rfl
theorem m34 {xs : List Int32} : xtM (xTa xs) 34 = some (⟨RX3, "chunkStart", "(I)I"⟩, prog_5_method_17_code, 2, (some FieldType.int), 1) := rfl
theorem m35 {xs : List Int32} : xtM (xTa xs) 35 = some (⟨RX3, "fullest", "(I)I"⟩, prog_5_method_18_code, 3, (some FieldType.int), 1) := rfl
theorem m36 {xs : List Int32} : xtM (xTa xs) 36 = some (⟨RX3, "badness", "(II)I"⟩, prog_5_method_19_code, 4, (some FieldType.int), 2) := rfl
theorem m37 {xs : List Int32} : xtM (xTa xs) 37 = some (⟨RX3, "breakFilled", "()V"⟩, prog_5_method_20_code, 2, none, 0) := rfl
theorem m38 {xs : List Int32} : xtM (xTa xs) 38 = some (⟨RX3, "breakLeast", "()V"⟩, prog_5_method_21_code, 5, none, 0) := rfl
theorem m39 {xs : List Int32} : xtM (xTa xs) 39 = some (⟨RX3, "putLines", "(LDocFormat$Page;)V"⟩, prog_5_method_22_code, 6, none, 1) := rfl
theorem m40 {xs : List Int32} : xtM (xTa xs) 40 = some (⟨RX4, "<init>", "()V"⟩, prog_6_method_1_code, 1, none, 0) := rfl
theorem m41 {xs : List Int32} : xtM (xTa xs) 41 = some (⟨RX4, "addNote", "(II)V"⟩, prog_6_method_2_code, 3, none, 2) := rfl
theorem m42 {xs : List Int32} : xtM (xTa xs) 42 = some (⟨RX4, "gather", "(LDocFormat$Register;LDocFormat$Entry;)V"⟩, prog_6_method_3_code, 4, none, 2) := rfl
theorem m43 {xs : List Int32} : xtM (xTa xs) 43 = some (⟨RX4, "noteDeadLinks", "(LDocFormat$Register;LDocFormat$Comment;)V"⟩, prog_6_method_4_code, 5, none, 2) := rfl
theorem m44 {xs : List Int32} : xtM (xTa xs) 44 = some (⟨RX4, "noteDeadLinksOf", "(LDocFormat$Comment;LDocFormat$Block;)V"⟩, prog_6_method_5_code, 5, none, 2) := rfl
theorem m45 {xs : List Int32} : xtM (xTa xs) 45 = some (⟨RX4, "noteInherit", "(LDocFormat$Comment;LDocFormat$Entry;)V"⟩, prog_6_method_6_code, 4, none, 2) := rfl
theorem m46 {xs : List Int32} : xtM (xTa xs) 46 = some (⟨RX4, "noteParams", "(LDocFormat$Entry;LDocFormat$Comment;)V"⟩, prog_6_method_7_code, 5, none, 2) := rfl
theorem m47 {xs : List Int32} : xtM (xTa xs) 47 = some (⟨RX4, "noteReturn", "(LDocFormat$Entry;LDocFormat$Comment;)V"⟩, prog_6_method_8_code, 4, none, 2) := rfl
theorem m48 {xs : List Int32} : xtM (xTa xs) 48 = some (⟨RX4, "noteUntold", "(LDocFormat$Register;LDocFormat$Entry;)V"⟩, prog_6_method_9_code, 5, none, 2) := rfl
theorem m49 {xs : List Int32} : xtM (xTa xs) 49 = some (⟨RX4, "isToldFrom", "(LDocFormat$Register;LDocFormat$Entry;LDocFormat$Text;)Z"⟩, prog_6_method_10_code, 6, (some FieldType.boolean), 3) := rfl
theorem m50 {xs : List Int32} : xtM (xTa xs) 50 = some (⟨RX5, "<init>", "()V"⟩, prog_7_method_1_code, 1, none, 0) := rfl
theorem m51 {xs : List Int32} : xtM (xTa xs) 51 = some (⟨RX5, "wipe", "()V"⟩, prog_7_method_2_code, 1, none, 0) := rfl
theorem m52 {xs : List Int32} : xtM (xTa xs) 52 = some (⟨RX5, "putByte", "(I)V"⟩, prog_7_method_3_code, 2, none, 1) := rfl
theorem m53 {xs : List Int32} : xtM (xTa xs) 53 = some (⟨RX5, "putBlanks", "(I)V"⟩, prog_7_method_4_code, 3, none, 1) := rfl
theorem m54 {xs : List Int32} : xtM (xTa xs) 54 = some (⟨RX5, "putPart", "(LDocFormat$Text;II)V"⟩, prog_7_method_5_code, 5, none, 3) := rfl
theorem m55 {xs : List Int32} : xtM (xTa xs) 55 = some (⟨RX5, "putName", "(LDocFormat$Entry;)V"⟩, prog_7_method_6_code, 2, none, 1) := rfl
theorem m56 {xs : List Int32} : xtM (xTa xs) 56 = some (⟨RX5, "closeLine", "()V"⟩, prog_7_method_7_code, 1, none, 0) := rfl
theorem m57 {xs : List Int32} : xtM (xTa xs) 57 = some (⟨RX5, "targetAt", "(I)LDocFormat$Entry;"⟩, prog_7_method_8_code, 2, (some (FieldType.object "DocFormat$Entry")), 1) := rfl
theorem m58 {xs : List Int32} : xtM (xTa xs) 58 = some (⟨RX5, "targetNumber", "(LDocFormat$Entry;)I"⟩, prog_7_method_9_code, 3, (some FieldType.int), 1) := rfl
theorem m59 {xs : List Int32} : xtM (xTa xs) 59 = some (⟨RX6, "<init>", "()V"⟩, prog_8_method_1_code, 1, none, 0) := rfl
theorem m60 {xs : List Int32} : xtM (xTa xs) 60 = some (⟨RX7, "<init>", "()V"⟩, prog_9_method_1_code, 1, none, 0) := rfl
theorem m61 {xs : List Int32} : xtM (xTa xs) 61 = some (⟨RX7, "read", "(LDocFormat$Comment;)V"⟩, prog_9_method_2_code, 7, none, 1) := rfl
theorem m62 {xs : List Int32} : xtM (xTa xs) 62 = some (⟨RX7, "refuse", "(II)V"⟩, prog_9_method_3_code, 3, none, 2) := rfl
theorem m63 {xs : List Int32} : xtM (xTa xs) 63 = some (⟨RX7, "refuseOddByte", "()V"⟩, prog_9_method_4_code, 2, none, 0) := rfl
theorem m64 {xs : List Int32} : xtM (xTa xs) 64 = some (⟨RX7, "lineSort", "(II)I"⟩, prog_9_method_5_code, 4, (some FieldType.int), 2) := rfl
theorem m65 {xs : List Int32} : xtM (xTa xs) 65 = some (⟨RX7, "isTagged", "()Z"⟩, prog_9_method_6_code, 1, (some FieldType.boolean), 0) := rfl
theorem m66 {xs : List Int32} : xtM (xTa xs) 66 = some (⟨RX7, "openBlock", "(II)V"⟩, prog_9_method_7_code, 3, none, 2) := rfl
theorem m67 {xs : List Int32} : xtM (xTa xs) 67 = some (⟨RX7, "readItem", "(III)V"⟩, prog_9_method_8_code, 6, none, 3) := rfl
theorem m68 {xs : List Int32} : xtM (xTa xs) 68 = some (⟨RX7, "readText", "(II)V"⟩, prog_9_method_9_code, 5, none, 2) := rfl
theorem m69 {xs : List Int32} : xtM (xTa xs) 69 = some (⟨RX7, "isInheritAlone", "(II)Z"⟩, prog_9_method_10_code, 5, (some FieldType.boolean), 2) := rfl
theorem m70 {xs : List Int32} : xtM (xTa xs) 70 = some (⟨RX7, "tagSort", "(II)I"⟩, prog_9_method_11_code, 5, (some FieldType.int), 2) := rfl
theorem m71 {xs : List Int32} : xtM (xTa xs) 71 = some (⟨RX7, "readTag", "(II)V"⟩, prog_9_method_12_code, 7, none, 2) := rfl
theorem m72 {xs : List Int32} : xtM (xTa xs) 72 = some (⟨RX7, "readTagName", "(III)I"⟩, prog_9_method_13_code, 7, (some FieldType.int), 3) := rfl
theorem m73 {xs : List Int32} : xtM (xTa xs) 73 = some (⟨RX7, "isParamTwice", "(II)Z"⟩, prog_9_method_14_code, 3, (some FieldType.boolean), 2) := rfl
theorem m74 {xs : List Int32} : xtM (xTa xs) 74 = some (⟨RX7, "readPieces", "(II)V"⟩, prog_9_method_15_code, 8, none, 2) := rfl
theorem m75 {xs : List Int32} : xtM (xTa xs) 75 = some (⟨RX7, "readWord", "(II)LDocFormat$Piece;"⟩, prog_9_method_16_code, 4, (some (FieldType.object "DocFormat$Piece")), 2) := rfl
theorem m76 {xs : List Int32} : xtM (xTa xs) 76 = some (⟨RX7, "isWordEnd", "(I)Z"⟩, prog_9_method_17_code, 1, (some FieldType.boolean), 1) := rfl
theorem m77 {xs : List Int32} : xtM (xTa xs) 77 = some (⟨RX7, "addPiece", "(IIZ)LDocFormat$Piece;"⟩, prog_9_method_18_code, 5, (some (FieldType.object "DocFormat$Piece")), 3) := rfl
theorem m78 {xs : List Int32} : xtM (xTa xs) 78 = some (⟨RX7, "readCode", "(II)LDocFormat$Piece;"⟩, prog_9_method_19_code, 7, (some (FieldType.object "DocFormat$Piece")), 2) := rfl
theorem m79 {xs : List Int32} : xtM (xTa xs) 79 = some (⟨RX7, "readLink", "(II)LDocFormat$Piece;"⟩, prog_9_method_20_code, 9, (some (FieldType.object "DocFormat$Piece")), 2) := rfl
theorem m80 {xs : List Int32} : xtM (xTa xs) 80 = some (⟨RX7, "isLabel", "(II)Z"⟩, prog_9_method_21_code, 3, (some FieldType.boolean), 2) := rfl
theorem m81 {xs : List Int32} : xtM (xTa xs) 81 = some (⟨RX8, "<init>", "()V"⟩, prog_10_method_1_code, 1, none, 0) := rfl
theorem m82 {xs : List Int32} : xtM (xTa xs) 82 = some (⟨RX8, "addEntry", "(LDocFormat$Entry;LDocFormat$Entry;ZLDocFormat$Text;)I"⟩, prog_10_method_2_code, 6, (some FieldType.int), 4) := rfl
theorem m83 {xs : List Int32} : xtM (xTa xs) 83 = some (⟨RX8, "entryAt", "(I)LDocFormat$Entry;"⟩, prog_10_method_3_code, 2, (some (FieldType.object "DocFormat$Entry")), 1) := rfl
theorem m84 {xs : List Int32} : xtM (xTa xs) 84 = some (⟨RX8, "typeAt", "(I)LDocFormat$Entry;"⟩, prog_10_method_4_code, 3, (some (FieldType.object "DocFormat$Entry")), 1) := rfl
theorem m85 {xs : List Int32} : xtM (xTa xs) 85 = some (⟨RX8, "typeCount", "()I"⟩, prog_10_method_5_code, 3, (some FieldType.int), 0) := rfl
theorem m86 {xs : List Int32} : xtM (xTa xs) 86 = some (⟨RX8, "commentCount", "()I"⟩, prog_10_method_6_code, 4, (some FieldType.int), 0) := rfl
theorem m87 {xs : List Int32} : xtM (xTa xs) 87 = some (⟨RX8, "typeNamed", "(LDocFormat$Text;II)LDocFormat$Entry;"⟩, prog_10_method_7_code, 4, (some (FieldType.object "DocFormat$Entry")), 3) := rfl
theorem m88 {xs : List Int32} : xtM (xTa xs) 88 = some (⟨RX8, "memberOf", "(LDocFormat$Entry;LDocFormat$Text;II)LDocFormat$Entry;"⟩, prog_10_method_8_code, 7, (some (FieldType.object "DocFormat$Entry")), 4) := rfl
theorem m89 {xs : List Int32} : xtM (xTa xs) 89 = some (⟨RX8, "memberFrom", "(LDocFormat$Entry;LDocFormat$Text;II)LDocFormat$Entry;"⟩, prog_10_method_9_code, 8, (some (FieldType.object "DocFormat$Entry")), 4) := rfl
theorem m90 {xs : List Int32} : xtM (xTa xs) 90 = some (⟨RX8, "above", "(LDocFormat$Entry;)LDocFormat$Entry;"⟩, prog_10_method_10_code, 2, (some (FieldType.object "DocFormat$Entry")), 1) := rfl
theorem m91 {xs : List Int32} : xtM (xTa xs) 91 = some (⟨RX8, "counting", "(LDocFormat$Entry;)LDocFormat$Entry;"⟩, prog_10_method_11_code, 4, (some (FieldType.object "DocFormat$Entry")), 1) := rfl
theorem m92 {xs : List Int32} : xtM (xTa xs) 92 = some (⟨RX8, "inherited", "(LDocFormat$Entry;)LDocFormat$Entry;"⟩, prog_10_method_12_code, 3, (some (FieldType.object "DocFormat$Entry")), 1) := rfl
theorem m93 {xs : List Int32} : xtM (xTa xs) 93 = some (⟨RX8, "find", "(LDocFormat$Text;IILDocFormat$Entry;)LDocFormat$Entry;"⟩, prog_10_method_13_code, 6, (some (FieldType.object "DocFormat$Entry")), 4) := rfl
theorem m94 {xs : List Int32} : xtM (xTa xs) 94 = some (⟨RX8, "resolveLinks", "(LDocFormat$Comment;LDocFormat$Block;)V"⟩, prog_10_method_14_code, 5, none, 2) := rfl
theorem m95 {xs : List Int32} : xtM (xTa xs) 95 = some (⟨RX9, "<init>", "(I)V"⟩, prog_11_method_1_code, 2, none, 1) := rfl
theorem m96 {xs : List Int32} : xtM (xTa xs) 96 = some (⟨RX9, "byteAt", "(I)I"⟩, prog_11_method_2_code, 2, (some FieldType.int), 1) := rfl
theorem m97 {xs : List Int32} : xtM (xTa xs) 97 = some (⟨RX9, "addByte", "(I)Z"⟩, prog_11_method_3_code, 2, (some FieldType.boolean), 1) := rfl
theorem m98 {xs : List Int32} : xtM (xTa xs) 98 = some (⟨RX9, "addNumber", "(I)V"⟩, prog_11_method_4_code, 3, none, 1) := rfl
theorem m99 {xs : List Int32} : xtM (xTa xs) 99 = some (⟨RX9, "addWord", "(Ljava/lang/String;)V"⟩, prog_11_method_5_code, 3, none, 1) := rfl
theorem m100 {xs : List Int32} : xtM (xTa xs) 100 = some (⟨RX9, "addPart", "(LDocFormat$Text;II)V"⟩, prog_11_method_6_code, 5, none, 3) := rfl
theorem m101 {xs : List Int32} : xtM (xTa xs) 101 = some (⟨RX9, "cut", "(I)V"⟩, prog_11_method_7_code, 2, none, 1) := rfl
theorem m102 {xs : List Int32} : xtM (xTa xs) 102 = some (⟨RX9, "become", "(LDocFormat$Text;)V"⟩, prog_11_method_8_code, 2, none, 1) := rfl
theorem m103 {xs : List Int32} : xtM (xTa xs) 103 = some (⟨RX9, "isPart", "(LDocFormat$Text;II)Z"⟩, prog_11_method_9_code, 5, (some FieldType.boolean), 3) := rfl
theorem m104 {xs : List Int32} : xtM (xTa xs) 104 = some (⟨RX9, "hasWordAt", "(ILjava/lang/String;)Z"⟩, prog_11_method_10_code, 4, (some FieldType.boolean), 2) := rfl
theorem m105 {xs : List Int32} : xtM (xTa xs) 105 = some (⟨RX9, "placeOf", "(III)I"⟩, prog_11_method_11_code, 5, (some FieldType.int), 3) := rfl
theorem m106 {xs : List Int32} : xtM (xTa xs) 106 = some (⟨RX9, "skipBlanks", "(II)I"⟩, prog_11_method_12_code, 4, (some FieldType.int), 2) := rfl
theorem m107 {xs : List Int32} : xtM (xTa xs) 107 = some (⟨RX9, "isName", "(II)Z"⟩, prog_11_method_13_code, 4, (some FieldType.boolean), 2) := rfl
theorem m108 {xs : List Int32} : xtM (xTa xs) 108 = some (⟨RX9, "isWholeName", "(II)Z"⟩, prog_11_method_14_code, 3, (some FieldType.boolean), 2) := rfl
theorem m109 {xs : List Int32} : xtM (xTa xs) 109 = some (⟨RX9, "isReference", "(II)Z"⟩, prog_11_method_15_code, 4, (some FieldType.boolean), 2) := rfl
theorem m110 {xs : List Int32} : xtM (xTa xs) 110 = some (⟨RX9, "isNumber", "(II)Z"⟩, prog_11_method_16_code, 4, (some FieldType.boolean), 2) := rfl
theorem m111 {xs : List Int32} : xtM (xTa xs) 111 = some (⟨RX10, "<init>", "()V"⟩, prog_1_method_1_code, 1, none, 0) := rfl
theorem m112 {xs : List Int32} : xtM (xTa xs) 112 = some (⟨RX10, "feed", "(IIIII)I"⟩, prog_1_method_2_code, 6, (some FieldType.int), 5) := rfl
theorem m113 {xs : List Int32} : xtM (xTa xs) 113 = some (⟨RX10, "end", "(I)I"⟩, prog_1_method_3_code, 3, (some FieldType.int), 1) := rfl
theorem m114 {xs : List Int32} : xtM (xTa xs) 114 = some (⟨RX10, "type", "(I)I"⟩, prog_1_method_4_code, 4, (some FieldType.int), 1) := rfl
theorem m115 {xs : List Int32} : xtM (xTa xs) 115 = some (⟨RX10, "member", "(IZ)I"⟩, prog_1_method_5_code, 5, (some FieldType.int), 2) := rfl
theorem m116 {xs : List Int32} : xtM (xTa xs) 116 = some (⟨RX10, "parameter", "(I)I"⟩, prog_1_method_6_code, 4, (some FieldType.int), 1) := rfl
theorem m117 {xs : List Int32} : xtM (xTa xs) 117 = some (⟨RX10, "comment", "(I)I"⟩, prog_1_method_7_code, 3, (some FieldType.int), 1) := rfl
theorem m118 {xs : List Int32} : xtM (xTa xs) 118 = some (⟨RX10, "keepDraft", "(LDocFormat$Entry;)I"⟩, prog_1_method_8_code, 3, (some FieldType.int), 1) := rfl
theorem m119 {xs : List Int32} : xtM (xTa xs) 119 = some (⟨RX10, "fault", "()I"⟩, prog_1_method_9_code, 1, (some FieldType.int), 0) := rfl
theorem m120 {xs : List Int32} : xtM (xTa xs) 120 = some (⟨RX10, "bare", "(I)I"⟩, prog_1_method_10_code, 4, (some FieldType.int), 1) := rfl
theorem m121 {xs : List Int32} : xtM (xTa xs) 121 = some (⟨RX10, "told", "(II)I"⟩, prog_1_method_11_code, 5, (some FieldType.int), 2) := rfl
theorem m122 {xs : List Int32} : xtM (xTa xs) 122 = some (⟨RX10, "block", "(III)I"⟩, prog_1_method_12_code, 6, (some FieldType.int), 3) := rfl
theorem m123 {xs : List Int32} : xtM (xTa xs) 123 = some (⟨RX10, "piece", "(III)I"⟩, prog_1_method_13_code, 6, (some FieldType.int), 3) := rfl
theorem m124 {xs : List Int32} : xtM (xTa xs) 124 = some (⟨RX10, "leads", "(I)I"⟩, prog_1_method_14_code, 4, (some FieldType.int), 1) := rfl
theorem m125 {xs : List Int32} : xtM (xTa xs) 125 = some (⟨RX10, "page", "(III)I"⟩, prog_1_method_15_code, 7, (some FieldType.int), 3) := rfl
theorem m126 {xs : List Int32} : xtM (xTa xs) 126 = some (⟨RX10, "about", "(I)I"⟩, prog_1_method_16_code, 2, (some FieldType.int), 1) := rfl
theorem m127 {xs : List Int32} : xtM (xTa xs) 127 = some (⟨RX10, "at", "(I)I"⟩, prog_1_method_17_code, 2, (some FieldType.int), 1) := rfl
theorem m128 {xs : List Int32} : xtM (xTa xs) 128 = some (⟨RX10, "line", "(I)I"⟩, prog_1_method_18_code, 2, (some FieldType.int), 1) := rfl
theorem m129 {xs : List Int32} : xtM (xTa xs) 129 = some (⟨RX10, "target", "(I)I"⟩, prog_1_method_19_code, 2, (some FieldType.int), 1) := rfl
theorem m130 {xs : List Int32} : xtM (xTa xs) 130 = some (⟨RX10, "notes", "(I)I"⟩, prog_1_method_20_code, 3, (some FieldType.int), 1) := rfl
theorem m131 {xs : List Int32} : xtM (xTa xs) 131 = some (⟨RX10, "note", "(II)I"⟩, prog_1_method_21_code, 3, (some FieldType.int), 2) := rfl
theorem m132 {xs : List Int32} : xtM (xTa xs) 132 = some (⟨RX10, "count", "(I)I"⟩, prog_1_method_22_code, 2, (some FieldType.int), 1) := rfl
theorem m133 {xs : List Int32} : xtM (xTa xs) 133 = some (⟨RX10, "commentOf", "(I)LDocFormat$Comment;"⟩, prog_1_method_23_code, 3, (some (FieldType.object "DocFormat$Comment")), 1) := rfl
theorem m134 {xs : List Int32} : xtM (xTa xs) 134 = some (⟨RX10, "numberOf", "(LDocFormat$Entry;)I"⟩, prog_1_method_24_code, 1, (some FieldType.int), 1) := rfl
theorem m135 {xs : List Int32} : xtM (xTa xs) 135 = some (⟨RX10, "isWithin", "(III)Z"⟩, prog_1_method_25_code, 3, (some FieldType.boolean), 3) := rfl
theorem m136 {xs : List Int32} : xtM (xTa xs) 136 = some (⟨RX10, "isDigit", "(I)Z"⟩, prog_1_method_26_code, 1, (some FieldType.boolean), 1) := rfl
theorem m137 {xs : List Int32} : xtM (xTa xs) 137 = some (⟨RX10, "isLetter", "(I)Z"⟩, prog_1_method_27_code, 1, (some FieldType.boolean), 1) := rfl
theorem m138 {xs : List Int32} : xtM (xTa xs) 138 = some (⟨RX10, "isTag", "(I)Z"⟩, prog_1_method_28_code, 1, (some FieldType.boolean), 1) := rfl
theorem m139 {xs : List Int32} : xtM (xTa xs) 139 = some (⟨RX10, "tagWord", "(I)Ljava/lang/String;"⟩, prog_1_method_29_code, 1, (some (FieldType.object "java/lang/String")), 1) := rfl
theorem m140 {xs : List Int32} : xtM (xTa xs) 140 = some (⟨RX11, "<init>", "()V"⟩, prog_13_method_1_code, 1, none, 0) := rfl
theorem m141 {xs : List Int32} : xtM (xTa xs) 141 = some (⟨RX11, "in", "(III)Z"⟩, prog_13_method_3_code, 3, (some FieldType.boolean), 3) := rfl
theorem m142 {xs : List Int32} : xtM (xTa xs) 142 = some (⟨RX11, "put", "(I)V"⟩, prog_13_method_4_code, 3, none, 1) := rfl
theorem m143 {xs : List Int32} : xtM (xTa xs) 143 = some (⟨RX11, "feed", "(IIIII)I"⟩, prog_13_method_5_code, 6, (some FieldType.int), 5) := rfl
theorem m144 {xs : List Int32} : xtM (xTa xs) 144 = some (⟨RX11, "end", "(I)I"⟩, prog_13_method_6_code, 3, (some FieldType.int), 1) := rfl
theorem m145 {xs : List Int32} : xtM (xTa xs) 145 = some (⟨RX11, "isBig", "(I)Z"⟩, prog_13_method_7_code, 1, (some FieldType.boolean), 1) := rfl
theorem m146 {xs : List Int32} : xtM (xTa xs) 146 = some (⟨RX11, "isSmall", "(I)Z"⟩, prog_13_method_8_code, 1, (some FieldType.boolean), 1) := rfl
theorem m147 {xs : List Int32} : xtM (xTa xs) 147 = some (⟨RX11, "isFigure", "(I)Z"⟩, prog_13_method_9_code, 1, (some FieldType.boolean), 1) := rfl
theorem m148 {xs : List Int32} : xtM (xTa xs) 148 = some (⟨RX11, "isEntry", "(I)Z"⟩, prog_13_method_10_code, 2, (some FieldType.boolean), 1) := rfl
theorem m149 {xs : List Int32} : xtM (xTa xs) 149 = some (⟨RX11, "isA", "(IZ)Z"⟩, prog_13_method_11_code, 3, (some FieldType.boolean), 2) := rfl
theorem m150 {xs : List Int32} : xtM (xTa xs) 150 = some (⟨RX11, "isTapedName", "(Z)Z"⟩, prog_13_method_12_code, 4, (some FieldType.boolean), 1) := rfl
theorem m151 {xs : List Int32} : xtM (xTa xs) 151 = some (⟨RX11, "isTaped", "([III)Z"⟩, prog_13_method_13_code, 6, (some FieldType.boolean), 3) := rfl
theorem m152 {xs : List Int32} : xtM (xTa xs) 152 = some (⟨RX11, "made", "(ZIIZ)I"⟩, prog_13_method_14_code, 7, (some FieldType.int), 4) := rfl
theorem m153 {xs : List Int32} : xtM (xTa xs) 153 = some (⟨RX11, "type", "(I)I"⟩, prog_13_method_15_code, 4, (some FieldType.int), 1) := rfl
theorem m154 {xs : List Int32} : xtM (xTa xs) 154 = some (⟨RX11, "member", "(IZ)I"⟩, prog_13_method_16_code, 5, (some FieldType.int), 2) := rfl
theorem m155 {xs : List Int32} : xtM (xTa xs) 155 = some (⟨RX11, "parameter", "(I)I"⟩, prog_13_method_17_code, 6, (some FieldType.int), 1) := rfl
theorem m156 {xs : List Int32} : xtM (xTa xs) 156 = some (⟨RX11, "above", "(I)I"⟩, prog_13_method_18_code, 2, (some FieldType.int), 1) := rfl
theorem m157 {xs : List Int32} : xtM (xTa xs) 157 = some (⟨RX11, "memberFrom", "(I[III)I"⟩, prog_13_method_19_code, 7, (some FieldType.int), 4) := rfl
theorem m158 {xs : List Int32} : xtM (xTa xs) 158 = some (⟨RX11, "isNamed", "(I[III)Z"⟩, prog_13_method_20_code, 7, (some FieldType.boolean), 4) := rfl
theorem m159 {xs : List Int32} : xtM (xTa xs) 159 = some (⟨RX11, "typeNamed", "([III)I"⟩, prog_13_method_21_code, 5, (some FieldType.int), 3) := rfl
theorem m160 {xs : List Int32} : xtM (xTa xs) 160 = some (⟨RX11, "counts", "(I)I"⟩, prog_13_method_22_code, 3, (some FieldType.int), 1) := rfl
theorem m161 {xs : List Int32} : xtM (xTa xs) 161 = some (⟨RX11, "isNameByte", "(I)Z"⟩, prog_13_method_23_code, 1, (some FieldType.boolean), 1) := rfl
theorem m162 {xs : List Int32} : xtM (xTa xs) 162 = some (⟨RX11, "nameAt", "([III)I"⟩, prog_13_method_24_code, 4, (some FieldType.int), 3) := rfl
theorem m163 {xs : List Int32} : xtM (xTa xs) 163 = some (⟨RX11, "referenceAt", "([III)I"⟩, prog_13_method_25_code, 5, (some FieldType.int), 3) := rfl
theorem m164 {xs : List Int32} : xtM (xTa xs) 164 = some (⟨RX11, "leadsTo", "(I[III)I"⟩, prog_13_method_26_code, 9, (some FieldType.int), 4) := rfl
theorem m165 {xs : List Int32} : xtM (xTa xs) 165 = some (⟨RX11, "leads", "(I)I"⟩, prog_13_method_27_code, 3, (some FieldType.int), 1) := rfl
theorem m166 {xs : List Int32} : xtM (xTa xs) 166 = some (⟨RX11, "fails", "(II)V"⟩, prog_13_method_28_code, 3, none, 2) := rfl
theorem m167 {xs : List Int32} : xtM (xTa xs) 167 = some (⟨RX11, "byteAt", "(I)I"⟩, prog_13_method_29_code, 2, (some FieldType.int), 1) := rfl
theorem m168 {xs : List Int32} : xtM (xTa xs) 168 = some (⟨RX11, "begins", "(IJI)Z"⟩, prog_13_method_30_code, 7, (some FieldType.boolean), 3) := rfl
theorem m169 {xs : List Int32} : xtM (xTa xs) 169 = some (⟨RX11, "skip", "(I)I"⟩, prog_13_method_31_code, 3, (some FieldType.int), 1) := rfl
theorem m170 {xs : List Int32} : xtM (xTa xs) 170 = some (⟨RX11, "token", "(I)I"⟩, prog_13_method_32_code, 3, (some FieldType.int), 1) := rfl
theorem m171 {xs : List Int32} : xtM (xTa xs) 171 = some (⟨RX11, "brace", "(I)I"⟩, prog_13_method_33_code, 4, (some FieldType.int), 1) := rfl
theorem m172 {xs : List Int32} : xtM (xTa xs) 172 = some (⟨RX11, "isBad", "(I)Z"⟩, prog_13_method_34_code, 2, (some FieldType.boolean), 1) := rfl
theorem m173 {xs : List Int32} : xtM (xTa xs) 173 = some (⟨RX11, "begun", "(III)V"⟩, prog_13_method_35_code, 5, none, 3) := rfl
theorem m174 {xs : List Int32} : xtM (xTa xs) 174 = some (⟨RX11, "last", "()I"⟩, prog_13_method_36_code, 1, (some FieldType.int), 0) := rfl
theorem m175 {xs : List Int32} : xtM (xTa xs) 175 = some (⟨RX11, "readPieces", "(I)V"⟩, prog_13_method_37_code, 3, none, 1) := rfl
theorem m176 {xs : List Int32} : xtM (xTa xs) 176 = some (⟨RX11, "readPiece", "(I)I"⟩, prog_13_method_38_code, 4, (some FieldType.int), 1) := rfl
theorem m177 {xs : List Int32} : xtM (xTa xs) 177 = some (⟨RX11, "read", "(I)V"⟩, prog_13_method_39_code, 4, none, 1) := rfl
theorem m178 {xs : List Int32} : xtM (xTa xs) 178 = some (⟨RX11, "endOf", "(II)I"⟩, prog_13_method_40_code, 4, (some FieldType.int), 2) := rfl
theorem m179 {xs : List Int32} : xtM (xTa xs) 179 = some (⟨RX11, "isItem", "(I)Z"⟩, prog_13_method_41_code, 2, (some FieldType.boolean), 1) := rfl
theorem m180 {xs : List Int32} : xtM (xTa xs) 180 = some (⟨RX11, "readItem", "(II)V"⟩, prog_13_method_42_code, 6, none, 2) := rfl
theorem m181 {xs : List Int32} : xtM (xTa xs) 181 = some (⟨RX11, "readText", "(II)V"⟩, prog_13_method_43_code, 6, none, 2) := rfl
theorem m182 {xs : List Int32} : xtM (xTa xs) 182 = some (⟨RX11, "isAlone", "(II)Z"⟩, prog_13_method_44_code, 6, (some FieldType.boolean), 2) := rfl
theorem m183 {xs : List Int32} : xtM (xTa xs) 183 = some (⟨RX11, "tagSort", "(II)I"⟩, prog_13_method_45_code, 5, (some FieldType.int), 2) := rfl
theorem m184 {xs : List Int32} : xtM (xTa xs) 184 = some (⟨RX11, "isTagThere", "(I)Z"⟩, prog_13_method_46_code, 4, (some FieldType.boolean), 1) := rfl
theorem m185 {xs : List Int32} : xtM (xTa xs) 185 = some (⟨RX11, "isParamThere", "(II)Z"⟩, prog_13_method_47_code, 8, (some FieldType.boolean), 2) := rfl
theorem m186 {xs : List Int32} : xtM (xTa xs) 186 = some (⟨RX11, "isWell", "(III)Z"⟩, prog_13_method_48_code, 7, (some FieldType.boolean), 3) := rfl
theorem m187 {xs : List Int32} : xtM (xTa xs) 187 = some (⟨RX11, "readTag", "(I)V"⟩, prog_13_method_49_code, 6, none, 1) := rfl
theorem m188 {xs : List Int32} : xtM (xTa xs) 188 = some (⟨RX11, "keep", "(II)V"⟩, prog_13_method_50_code, 6, none, 2) := rfl
theorem m189 {xs : List Int32} : xtM (xTa xs) 189 = some (⟨RX11, "comment", "(I)I"⟩, prog_13_method_51_code, 4, (some FieldType.int), 1) := rfl
theorem m190 {xs : List Int32} : xtM (xTa xs) 190 = some (⟨RX11, "fault", "()I"⟩, prog_13_method_52_code, 1, (some FieldType.int), 0) := rfl
theorem m191 {xs : List Int32} : xtM (xTa xs) 191 = some (⟨RX11, "bare", "(I)I"⟩, prog_13_method_53_code, 3, (some FieldType.int), 1) := rfl
theorem m192 {xs : List Int32} : xtM (xTa xs) 192 = some (⟨RX11, "told", "(II)I"⟩, prog_13_method_54_code, 3, (some FieldType.int), 2) := rfl
theorem m193 {xs : List Int32} : xtM (xTa xs) 193 = some (⟨RX11, "block", "(III)I"⟩, prog_13_method_55_code, 5, (some FieldType.int), 3) := rfl
theorem m194 {xs : List Int32} : xtM (xTa xs) 194 = some (⟨RX11, "piece", "(III)I"⟩, prog_13_method_56_code, 5, (some FieldType.int), 3) := rfl
theorem m195 {xs : List Int32} : xtM (xTa xs) 195 = some (⟨RX11, "say", "(I)V"⟩, prog_13_method_57_code, 2, none, 1) := rfl
theorem m196 {xs : List Int32} : xtM (xTa xs) 196 = some (⟨RX11, "sayNumber", "(I)V"⟩, prog_13_method_58_code, 3, none, 1) := rfl
theorem m197 {xs : List Int32} : xtM (xTa xs) 197 = some (⟨RX11, "beginLine", "()V"⟩, prog_13_method_59_code, 1, none, 0) := rfl
theorem m198 {xs : List Int32} : xtM (xTa xs) 198 = some (⟨RX11, "endLine", "()V"⟩, prog_13_method_60_code, 2, none, 0) := rfl
theorem m199 {xs : List Int32} : xtM (xTa xs) 199 = some (⟨RX11, "emptyLine", "()V"⟩, prog_13_method_61_code, 1, none, 0) := rfl
theorem m200 {xs : List Int32} : xtM (xTa xs) 200 = some (⟨RX11, "sayName", "(I)V"⟩, prog_13_method_62_code, 2, none, 1) := rfl
theorem m201 {xs : List Int32} : xtM (xTa xs) 201 = some (⟨RX11, "sayName1", "(I)V"⟩, prog_13_method_63_code, 3, none, 1) := rfl
theorem m202 {xs : List Int32} : xtM (xTa xs) 202 = some (⟨RX11, "chunk", "()V"⟩, prog_13_method_64_code, 1, none, 0) := rfl
theorem m203 {xs : List Int32} : xtM (xTa xs) 203 = some (⟨RX11, "add", "(I)V"⟩, prog_13_method_65_code, 2, none, 1) := rfl
theorem m204 {xs : List Int32} : xtM (xTa xs) 204 = some (⟨RX11, "addText", "(III)V"⟩, prog_13_method_66_code, 5, none, 3) := rfl
theorem m205 {xs : List Int32} : xtM (xTa xs) 205 = some (⟨RX11, "addWord", "(J)V"⟩, prog_13_method_67_code, 5, none, 1) := rfl
theorem m206 {xs : List Int32} : xtM (xTa xs) 206 = some (⟨RX11, "addTarget", "(I)V"⟩, prog_13_method_68_code, 3, none, 1) := rfl
theorem m207 {xs : List Int32} : xtM (xTa xs) 207 = some (⟨RX11, "chunksOf", "(II)V"⟩, prog_13_method_69_code, 6, none, 2) := rfl
theorem m208 {xs : List Int32} : xtM (xTa xs) 208 = some (⟨RX11, "chunkSize", "(I)I"⟩, prog_13_method_70_code, 2, (some FieldType.int), 1) := rfl
theorem m209 {xs : List Int32} : xtM (xTa xs) 209 = some (⟨RX11, "square", "(I)I"⟩, prog_13_method_71_code, 2, (some FieldType.int), 1) := rfl
theorem m210 {xs : List Int32} : xtM (xTa xs) 210 = some (⟨RX11, "parts", "(IIIZ)V"⟩, prog_13_method_72_code, 10, none, 4) := rfl
theorem m211 {xs : List Int32} : xtM (xTa xs) 211 = some (⟨RX11, "layBlock", "(IIIZ)V"⟩, prog_13_method_73_code, 14, none, 4) := rfl
theorem m212 {xs : List Int32} : xtM (xTa xs) 212 = some (⟨RX11, "flatten", "(I)V"⟩, prog_13_method_74_code, 7, none, 1) := rfl
theorem m213 {xs : List Int32} : xtM (xTa xs) 213 = some (⟨RX11, "layTags", "(IIZ)V"⟩, prog_13_method_75_code, 8, none, 3) := rfl
theorem m214 {xs : List Int32} : xtM (xTa xs) 214 = some (⟨RX11, "page", "(III)I"⟩, prog_13_method_76_code, 6, (some FieldType.int), 3) := rfl
theorem m215 {xs : List Int32} : xtM (xTa xs) 215 = some (⟨RX11, "about", "(I)I"⟩, prog_13_method_77_code, 2, (some FieldType.int), 1) := rfl
theorem m216 {xs : List Int32} : xtM (xTa xs) 216 = some (⟨RX11, "at", "(I)I"⟩, prog_13_method_78_code, 2, (some FieldType.int), 1) := rfl
theorem m217 {xs : List Int32} : xtM (xTa xs) 217 = some (⟨RX11, "line", "(I)I"⟩, prog_13_method_79_code, 2, (some FieldType.int), 1) := rfl
theorem m218 {xs : List Int32} : xtM (xTa xs) 218 = some (⟨RX11, "target", "(I)I"⟩, prog_13_method_80_code, 2, (some FieldType.int), 1) := rfl
theorem m219 {xs : List Int32} : xtM (xTa xs) 219 = some (⟨RX11, "noted", "(II)V"⟩, prog_13_method_81_code, 3, none, 2) := rfl
theorem m220 {xs : List Int32} : xtM (xTa xs) 220 = some (⟨RX11, "isParameter", "(II)Z"⟩, prog_13_method_82_code, 5, (some FieldType.boolean), 2) := rfl
theorem m221 {xs : List Int32} : xtM (xTa xs) 221 = some (⟨RX11, "isParam", "(IIII)Z"⟩, prog_13_method_83_code, 8, (some FieldType.boolean), 4) := rfl
theorem m222 {xs : List Int32} : xtM (xTa xs) 222 = some (⟨RX11, "noteLinks", "(I)V"⟩, prog_13_method_84_code, 6, none, 1) := rfl
theorem m223 {xs : List Int32} : xtM (xTa xs) 223 = some (⟨RX11, "isTold", "(III)Z"⟩, prog_13_method_85_code, 8, (some FieldType.boolean), 3) := rfl
theorem m224 {xs : List Int32} : xtM (xTa xs) 224 = some (⟨RX11, "notes", "(I)I"⟩, prog_13_method_86_code, 7, (some FieldType.int), 1) := rfl
theorem m225 {xs : List Int32} : xtM (xTa xs) 225 = some (⟨RX11, "note", "(II)I"⟩, prog_13_method_87_code, 3, (some FieldType.int), 2) := rfl
theorem m226 {xs : List Int32} : xtM (xTa xs) 226 = some (⟨RX11, "count", "(I)I"⟩, prog_13_method_88_code, 5, (some FieldType.int), 1) := rfl
theorem m227 {xs : List Int32} : xtM (xTa xs) 227 = some (⟨RJ0, "length", "()I"⟩, prog_15_method_54_code, 1, (some FieldType.int), 0) := rfl
theorem m228 {xs : List Int32} : xtM (xTa xs) 228 = some (⟨RJ0, "charAt", "(I)C"⟩, prog_15_method_56_code, 2, (some FieldType.char), 1) := rfl
theorem m229 {xs : List Int32} : xtM (xTa xs) 229 = some (⟨RJ0, "coder", "()B"⟩, prog_15_method_152_code, 1, (some FieldType.byte), 0) := rfl
theorem m230 {xs : List Int32} : xtM (xTa xs) 230 = some (⟨RJ0, "isLatin1", "()Z"⟩, prog_15_method_154_code, 1, (some FieldType.boolean), 0) := rfl
theorem m231 {xs : List Int32} : xtM (xTa xs) 231 = some (⟨RJ0, "checkIndex", "(II)V"⟩, prog_15_method_155_code, 2, none, 2) := rfl
theorem m232 {xs : List Int32} : xtM (xTa xs) 232 = some (⟨RJ1, "charAt", "([BI)C"⟩, prog_16_method_2_code, 2, (some FieldType.char), 2) := rfl
theorem m233 {xs : List Int32} : xtM (xTa xs) 233 = some (⟨RJ3, "checkIndex", "(IILjava/util/function/BiFunction;)I"⟩, prog_18_method_11_code, 3, (some FieldType.int), 3) := rfl
theorem m234 {xs : List Int32} : xtM (xTa xs) 234 = some (⟨"DocFormatLaw", "law", "([I)Z"⟩, code, 4, some .boolean, 1) := rfl

