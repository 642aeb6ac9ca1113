theorem kk49 : xK0.getD 49 [] = k49 := rfl
set_option maxRecDepth 100000 in
theorem ia49 : (k49.all fun e => decide (k49.lookup e.1 = some e.2)) = true := by decide +kernel
theorem i49_0 {xs : List Int32} : xtI (xTa xs) 49 0 = some (.aload_n 1, 1) := x_ins (j := 0) kk49 ia49 rfl
theorem i49_1 {xs : List Int32} : xtI (xTa xs) 49 1 = some (.astore_n 3, 1) := x_ins (j := 1) kk49 ia49 rfl
theorem i49_2 {xs : List Int32} : xtI (xTa xs) 49 2 = some (.iconst 0, 1) := x_ins (j := 2) kk49 ia49 rfl
theorem i49_3 {xs : List Int32} : xtI (xTa xs) 49 3 = some (.istore 4, 2) := x_ins (j := 3) kk49 ia49 rfl
theorem i49_5 {xs : List Int32} : xtI (xTa xs) 49 5 = some (.iload 4, 2) := x_ins (j := 4) kk49 ia49 rfl
theorem i49_7 {xs : List Int32} : xtI (xTa xs) 49 7 = some (.bipush 40, 2) := x_ins (j := 5) kk49 ia49 rfl
theorem i49_9 {xs : List Int32} : xtI (xTa xs) 49 9 = some (.if_icmp .ge 57, 3) := x_ins (j := 6) kk49 ia49 rfl
theorem i49_12 {xs : List Int32} : xtI (xTa xs) 49 12 = some (.aload_n 3, 1) := x_ins (j := 7) kk49 ia49 rfl
theorem i49_13 {xs : List Int32} : xtI (xTa xs) 49 13 = some (.ifnull 53, 3) := x_ins (j := 8) kk49 ia49 rfl
theorem i49_16 {xs : List Int32} : xtI (xTa xs) 49 16 = some (.aload_n 3, 1) := x_ins (j := 9) kk49 ia49 rfl
theorem i49_17 {xs : List Int32} : xtI (xTa xs) 49 17 = some (.invokevirtual 32, 3) := x_ins (j := 10) kk49 ia49 rfl
theorem i49_20 {xs : List Int32} : xtI (xTa xs) 49 20 = some (.astore 5, 2) := x_ins (j := 11) kk49 ia49 rfl
theorem i49_22 {xs : List Int32} : xtI (xTa xs) 49 22 = some (.aload 5, 2) := x_ins (j := 12) kk49 ia49 rfl
theorem i49_24 {xs : List Int32} : xtI (xTa xs) 49 24 = some (.ifnull 30, 3) := x_ins (j := 13) kk49 ia49 rfl
theorem i49_27 {xs : List Int32} : xtI (xTa xs) 49 27 = some (.aload_n 2, 1) := x_ins (j := 14) kk49 ia49 rfl
theorem i49_28 {xs : List Int32} : xtI (xTa xs) 49 28 = some (.ifnonnull 15, 3) := x_ins (j := 15) kk49 ia49 rfl
theorem i49_31 {xs : List Int32} : xtI (xTa xs) 49 31 = some (.aload 5, 2) := x_ins (j := 16) kk49 ia49 rfl
theorem i49_33 {xs : List Int32} : xtI (xTa xs) 49 33 = some (.iconst 3, 1) := x_ins (j := 17) kk49 ia49 rfl
theorem i49_34 {xs : List Int32} : xtI (xTa xs) 49 34 = some (.invokevirtual 106, 3) := x_ins (j := 18) kk49 ia49 rfl
theorem i49_37 {xs : List Int32} : xtI (xTa xs) 49 37 = some (.ifnull 17, 3) := x_ins (j := 19) kk49 ia49 rfl
theorem i49_40 {xs : List Int32} : xtI (xTa xs) 49 40 = some (.goto 12, 3) := x_ins (j := 20) kk49 ia49 rfl
theorem i49_43 {xs : List Int32} : xtI (xTa xs) 49 43 = some (.aload 5, 2) := x_ins (j := 21) kk49 ia49 rfl
theorem i49_45 {xs : List Int32} : xtI (xTa xs) 49 45 = some (.aload_n 2, 1) := x_ins (j := 22) kk49 ia49 rfl
theorem i49_46 {xs : List Int32} : xtI (xTa xs) 49 46 = some (.invokevirtual 139, 3) := x_ins (j := 23) kk49 ia49 rfl
theorem i49_49 {xs : List Int32} : xtI (xTa xs) 49 49 = some (.ifCond .eq 5, 3) := x_ins (j := 24) kk49 ia49 rfl
theorem i49_52 {xs : List Int32} : xtI (xTa xs) 49 52 = some (.iconst 1, 1) := x_ins (j := 25) kk49 ia49 rfl
theorem i49_53 {xs : List Int32} : xtI (xTa xs) 49 53 = some (.ireturn, 1) := x_ins (j := 26) kk49 ia49 rfl
theorem i49_54 {xs : List Int32} : xtI (xTa xs) 49 54 = some (.aload_n 0, 1) := x_ins (j := 27) kk49 ia49 rfl
theorem i49_55 {xs : List Int32} : xtI (xTa xs) 49 55 = some (.aload_n 3, 1) := x_ins (j := 28) kk49 ia49 rfl
theorem i49_56 {xs : List Int32} : xtI (xTa xs) 49 56 = some (.invokevirtual 143, 3) := x_ins (j := 29) kk49 ia49 rfl
theorem i49_59 {xs : List Int32} : xtI (xTa xs) 49 59 = some (.astore_n 3, 1) := x_ins (j := 30) kk49 ia49 rfl
theorem i49_60 {xs : List Int32} : xtI (xTa xs) 49 60 = some (.iinc 4 1, 3) := x_ins (j := 31) kk49 ia49 rfl
theorem i49_63 {xs : List Int32} : xtI (xTa xs) 49 63 = some (.goto (-58), 3) := x_ins (j := 32) kk49 ia49 rfl
theorem i49_66 {xs : List Int32} : xtI (xTa xs) 49 66 = some (.iconst 0, 1) := x_ins (j := 33) kk49 ia49 rfl
theorem i49_67 {xs : List Int32} : xtI (xTa xs) 49 67 = some (.ireturn, 1) := x_ins (j := 34) kk49 ia49 rfl
theorem kk50 : xK0.getD 50 [] = k50 := rfl
set_option maxRecDepth 100000 in
theorem ia50 : (k50.all fun e => decide (k50.lookup e.1 = some e.2)) = true := by decide +kernel
theorem i50_0 {xs : List Int32} : xtI (xTa xs) 50 0 = some (.aload_n 0, 1) := x_ins (j := 0) kk50 ia50 rfl
theorem i50_1 {xs : List Int32} : xtI (xTa xs) 50 1 = some (.invokespecial 3, 3) := x_ins (j := 1) kk50 ia50 rfl
theorem i50_4 {xs : List Int32} : xtI (xTa xs) 50 4 = some (.aload_n 0, 1) := x_ins (j := 2) kk50 ia50 rfl
theorem i50_5 {xs : List Int32} : xtI (xTa xs) 50 5 = some (.new 9, 3) := x_ins (j := 3) kk50 ia50 rfl
theorem i50_8 {xs : List Int32} : xtI (xTa xs) 50 8 = some (.dup, 1) := x_ins (j := 4) kk50 ia50 rfl
theorem i50_9 {xs : List Int32} : xtI (xTa xs) 50 9 = some (.sipush 4000, 3) := x_ins (j := 5) kk50 ia50 rfl
theorem i50_12 {xs : List Int32} : xtI (xTa xs) 50 12 = some (.invokespecial 11, 3) := x_ins (j := 6) kk50 ia50 rfl
theorem i50_15 {xs : List Int32} : xtI (xTa xs) 50 15 = some (.putfield 14, 3) := x_ins (j := 7) kk50 ia50 rfl
theorem i50_18 {xs : List Int32} : xtI (xTa xs) 50 18 = some (.aload_n 0, 1) := x_ins (j := 8) kk50 ia50 rfl
theorem i50_19 {xs : List Int32} : xtI (xTa xs) 50 19 = some (.sipush 4000, 3) := x_ins (j := 9) kk50 ia50 rfl
theorem i50_22 {xs : List Int32} : xtI (xTa xs) 50 22 = some (.newarray .int, 2) := x_ins (j := 10) kk50 ia50 rfl
theorem i50_24 {xs : List Int32} : xtI (xTa xs) 50 24 = some (.putfield 20, 3) := x_ins (j := 11) kk50 ia50 rfl
theorem i50_27 {xs : List Int32} : xtI (xTa xs) 50 27 = some (.aload_n 0, 1) := x_ins (j := 12) kk50 ia50 rfl
theorem i50_28 {xs : List Int32} : xtI (xTa xs) 50 28 = some (.bipush 40, 2) := x_ins (j := 13) kk50 ia50 rfl
theorem i50_30 {xs : List Int32} : xtI (xTa xs) 50 30 = some (.anewarray 24, 3) := x_ins (j := 14) kk50 ia50 rfl
theorem i50_33 {xs : List Int32} : xtI (xTa xs) 50 33 = some (.putfield 26, 3) := x_ins (j := 15) kk50 ia50 rfl
theorem i50_36 {xs : List Int32} : xtI (xTa xs) 50 36 = some (.return_, 1) := x_ins (j := 16) kk50 ia50 rfl
theorem kk51 : xK0.getD 51 [] = k51 := rfl
set_option maxRecDepth 100000 in
theorem ia51 : (k51.all fun e => decide (k51.lookup e.1 = some e.2)) = true := by decide +kernel
theorem i51_0 {xs : List Int32} : xtI (xTa xs) 51 0 = some (.aload_n 0, 1) := x_ins (j := 0) kk51 ia51 rfl
theorem i51_1 {xs : List Int32} : xtI (xTa xs) 51 1 = some (.getfield 14, 3) := x_ins (j := 1) kk51 ia51 rfl
theorem i51_4 {xs : List Int32} : xtI (xTa xs) 51 4 = some (.iconst 0, 1) := x_ins (j := 2) kk51 ia51 rfl
theorem i51_5 {xs : List Int32} : xtI (xTa xs) 51 5 = some (.invokevirtual 30, 3) := x_ins (j := 3) kk51 ia51 rfl
theorem i51_8 {xs : List Int32} : xtI (xTa xs) 51 8 = some (.aload_n 0, 1) := x_ins (j := 4) kk51 ia51 rfl
theorem i51_9 {xs : List Int32} : xtI (xTa xs) 51 9 = some (.iconst 0, 1) := x_ins (j := 5) kk51 ia51 rfl
theorem i51_10 {xs : List Int32} : xtI (xTa xs) 51 10 = some (.putfield 33, 3) := x_ins (j := 6) kk51 ia51 rfl
theorem i51_13 {xs : List Int32} : xtI (xTa xs) 51 13 = some (.aload_n 0, 1) := x_ins (j := 7) kk51 ia51 rfl
theorem i51_14 {xs : List Int32} : xtI (xTa xs) 51 14 = some (.iconst 0, 1) := x_ins (j := 8) kk51 ia51 rfl
theorem i51_15 {xs : List Int32} : xtI (xTa xs) 51 15 = some (.putfield 37, 3) := x_ins (j := 9) kk51 ia51 rfl
theorem i51_18 {xs : List Int32} : xtI (xTa xs) 51 18 = some (.aload_n 0, 1) := x_ins (j := 10) kk51 ia51 rfl
theorem i51_19 {xs : List Int32} : xtI (xTa xs) 51 19 = some (.iconst 0, 1) := x_ins (j := 11) kk51 ia51 rfl
theorem i51_20 {xs : List Int32} : xtI (xTa xs) 51 20 = some (.putfield 40, 3) := x_ins (j := 12) kk51 ia51 rfl
theorem i51_23 {xs : List Int32} : xtI (xTa xs) 51 23 = some (.aload_n 0, 1) := x_ins (j := 13) kk51 ia51 rfl
theorem i51_24 {xs : List Int32} : xtI (xTa xs) 51 24 = some (.iconst 0, 1) := x_ins (j := 14) kk51 ia51 rfl
theorem i51_25 {xs : List Int32} : xtI (xTa xs) 51 25 = some (.putfield 43, 3) := x_ins (j := 15) kk51 ia51 rfl
theorem i51_28 {xs : List Int32} : xtI (xTa xs) 51 28 = some (.aload_n 0, 1) := x_ins (j := 16) kk51 ia51 rfl
theorem i51_29 {xs : List Int32} : xtI (xTa xs) 51 29 = some (.iconst 0, 1) := x_ins (j := 17) kk51 ia51 rfl
theorem i51_30 {xs : List Int32} : xtI (xTa xs) 51 30 = some (.putfield 46, 3) := x_ins (j := 18) kk51 ia51 rfl
theorem i51_33 {xs : List Int32} : xtI (xTa xs) 51 33 = some (.aload_n 0, 1) := x_ins (j := 19) kk51 ia51 rfl
theorem i51_34 {xs : List Int32} : xtI (xTa xs) 51 34 = some (.iconst 0, 1) := x_ins (j := 20) kk51 ia51 rfl
theorem i51_35 {xs : List Int32} : xtI (xTa xs) 51 35 = some (.putfield 49, 3) := x_ins (j := 21) kk51 ia51 rfl
theorem i51_38 {xs : List Int32} : xtI (xTa xs) 51 38 = some (.return_, 1) := x_ins (j := 22) kk51 ia51 rfl
theorem kk52 : xK0.getD 52 [] = k52 := rfl
set_option maxRecDepth 100000 in
theorem ia52 : (k52.all fun e => decide (k52.lookup e.1 = some e.2)) = true := by decide +kernel
theorem i52_0 {xs : List Int32} : xtI (xTa xs) 52 0 = some (.aload_n 0, 1) := x_ins (j := 0) kk52 ia52 rfl
theorem i52_1 {xs : List Int32} : xtI (xTa xs) 52 1 = some (.getfield 14, 3) := x_ins (j := 1) kk52 ia52 rfl
theorem i52_4 {xs : List Int32} : xtI (xTa xs) 52 4 = some (.iload_n 1, 1) := x_ins (j := 2) kk52 ia52 rfl
theorem i52_5 {xs : List Int32} : xtI (xTa xs) 52 5 = some (.invokevirtual 53, 3) := x_ins (j := 3) kk52 ia52 rfl
theorem i52_8 {xs : List Int32} : xtI (xTa xs) 52 8 = some (.ifCond .ne 8, 3) := x_ins (j := 4) kk52 ia52 rfl
theorem i52_11 {xs : List Int32} : xtI (xTa xs) 52 11 = some (.aload_n 0, 1) := x_ins (j := 5) kk52 ia52 rfl
theorem i52_12 {xs : List Int32} : xtI (xTa xs) 52 12 = some (.iconst 1, 1) := x_ins (j := 6) kk52 ia52 rfl
theorem i52_13 {xs : List Int32} : xtI (xTa xs) 52 13 = some (.putfield 49, 3) := x_ins (j := 7) kk52 ia52 rfl
theorem i52_16 {xs : List Int32} : xtI (xTa xs) 52 16 = some (.return_, 1) := x_ins (j := 8) kk52 ia52 rfl
theorem kk53 : xK0.getD 53 [] = k53 := rfl
set_option maxRecDepth 100000 in
theorem ia53 : (k53.all fun e => decide (k53.lookup e.1 = some e.2)) = true := by decide +kernel
theorem i53_0 {xs : List Int32} : xtI (xTa xs) 53 0 = some (.iconst 0, 1) := x_ins (j := 0) kk53 ia53 rfl
theorem i53_1 {xs : List Int32} : xtI (xTa xs) 53 1 = some (.istore_n 2, 1) := x_ins (j := 1) kk53 ia53 rfl
theorem i53_2 {xs : List Int32} : xtI (xTa xs) 53 2 = some (.iload_n 2, 1) := x_ins (j := 2) kk53 ia53 rfl
theorem i53_3 {xs : List Int32} : xtI (xTa xs) 53 3 = some (.iload_n 1, 1) := x_ins (j := 3) kk53 ia53 rfl
theorem i53_4 {xs : List Int32} : xtI (xTa xs) 53 4 = some (.if_icmp .ge 15, 3) := x_ins (j := 4) kk53 ia53 rfl
theorem i53_7 {xs : List Int32} : xtI (xTa xs) 53 7 = some (.aload_n 0, 1) := x_ins (j := 5) kk53 ia53 rfl
theorem i53_8 {xs : List Int32} : xtI (xTa xs) 53 8 = some (.bipush 32, 2) := x_ins (j := 6) kk53 ia53 rfl
theorem i53_10 {xs : List Int32} : xtI (xTa xs) 53 10 = some (.invokevirtual 57, 3) := x_ins (j := 7) kk53 ia53 rfl
theorem i53_13 {xs : List Int32} : xtI (xTa xs) 53 13 = some (.iinc 2 1, 3) := x_ins (j := 8) kk53 ia53 rfl
theorem i53_16 {xs : List Int32} : xtI (xTa xs) 53 16 = some (.goto (-14), 3) := x_ins (j := 9) kk53 ia53 rfl
theorem i53_19 {xs : List Int32} : xtI (xTa xs) 53 19 = some (.return_, 1) := x_ins (j := 10) kk53 ia53 rfl
theorem kk54 : xK0.getD 54 [] = k54 := rfl
set_option maxRecDepth 100000 in
theorem ia54 : (k54.all fun e => decide (k54.lookup e.1 = some e.2)) = true := by decide +kernel
theorem i54_0 {xs : List Int32} : xtI (xTa xs) 54 0 = some (.iload_n 2, 1) := x_ins (j := 0) kk54 ia54 rfl
theorem i54_1 {xs : List Int32} : xtI (xTa xs) 54 1 = some (.istore 4, 2) := x_ins (j := 1) kk54 ia54 rfl
theorem i54_3 {xs : List Int32} : xtI (xTa xs) 54 3 = some (.iload 4, 2) := x_ins (j := 2) kk54 ia54 rfl
theorem i54_5 {xs : List Int32} : xtI (xTa xs) 54 5 = some (.iload_n 3, 1) := x_ins (j := 3) kk54 ia54 rfl
theorem i54_6 {xs : List Int32} : xtI (xTa xs) 54 6 = some (.if_icmp .ge 19, 3) := x_ins (j := 4) kk54 ia54 rfl
theorem i54_9 {xs : List Int32} : xtI (xTa xs) 54 9 = some (.aload_n 0, 1) := x_ins (j := 5) kk54 ia54 rfl
theorem i54_10 {xs : List Int32} : xtI (xTa xs) 54 10 = some (.aload_n 1, 1) := x_ins (j := 6) kk54 ia54 rfl
theorem i54_11 {xs : List Int32} : xtI (xTa xs) 54 11 = some (.iload 4, 2) := x_ins (j := 7) kk54 ia54 rfl
theorem i54_13 {xs : List Int32} : xtI (xTa xs) 54 13 = some (.invokevirtual 60, 3) := x_ins (j := 8) kk54 ia54 rfl
theorem i54_16 {xs : List Int32} : xtI (xTa xs) 54 16 = some (.invokevirtual 57, 3) := x_ins (j := 9) kk54 ia54 rfl
theorem i54_19 {xs : List Int32} : xtI (xTa xs) 54 19 = some (.iinc 4 1, 3) := x_ins (j := 10) kk54 ia54 rfl
theorem i54_22 {xs : List Int32} : xtI (xTa xs) 54 22 = some (.goto (-19), 3) := x_ins (j := 11) kk54 ia54 rfl
theorem i54_25 {xs : List Int32} : xtI (xTa xs) 54 25 = some (.return_, 1) := x_ins (j := 12) kk54 ia54 rfl
theorem kk55 : xK0.getD 55 [] = k55 := rfl
set_option maxRecDepth 100000 in
theorem ia55 : (k55.all fun e => decide (k55.lookup e.1 = some e.2)) = true := by decide +kernel
theorem i55_0 {xs : List Int32} : xtI (xTa xs) 55 0 = some (.aload_n 1, 1) := x_ins (j := 0) kk55 ia55 rfl
theorem i55_1 {xs : List Int32} : xtI (xTa xs) 55 1 = some (.getfield 64, 3) := x_ins (j := 1) kk55 ia55 rfl
theorem i55_4 {xs : List Int32} : xtI (xTa xs) 55 4 = some (.ifnull 31, 3) := x_ins (j := 2) kk55 ia55 rfl
theorem i55_7 {xs : List Int32} : xtI (xTa xs) 55 7 = some (.aload_n 0, 1) := x_ins (j := 3) kk55 ia55 rfl
theorem i55_8 {xs : List Int32} : xtI (xTa xs) 55 8 = some (.aload_n 1, 1) := x_ins (j := 4) kk55 ia55 rfl
theorem i55_9 {xs : List Int32} : xtI (xTa xs) 55 9 = some (.getfield 64, 3) := x_ins (j := 5) kk55 ia55 rfl
theorem i55_12 {xs : List Int32} : xtI (xTa xs) 55 12 = some (.getfield 68, 3) := x_ins (j := 6) kk55 ia55 rfl
theorem i55_15 {xs : List Int32} : xtI (xTa xs) 55 15 = some (.iconst 0, 1) := x_ins (j := 7) kk55 ia55 rfl
theorem i55_16 {xs : List Int32} : xtI (xTa xs) 55 16 = some (.aload_n 1, 1) := x_ins (j := 8) kk55 ia55 rfl
theorem i55_17 {xs : List Int32} : xtI (xTa xs) 55 17 = some (.getfield 64, 3) := x_ins (j := 9) kk55 ia55 rfl
theorem i55_20 {xs : List Int32} : xtI (xTa xs) 55 20 = some (.getfield 68, 3) := x_ins (j := 10) kk55 ia55 rfl
theorem i55_23 {xs : List Int32} : xtI (xTa xs) 55 23 = some (.getfield 71, 3) := x_ins (j := 11) kk55 ia55 rfl
theorem i55_26 {xs : List Int32} : xtI (xTa xs) 55 26 = some (.invokevirtual 74, 3) := x_ins (j := 12) kk55 ia55 rfl
theorem i55_29 {xs : List Int32} : xtI (xTa xs) 55 29 = some (.aload_n 0, 1) := x_ins (j := 13) kk55 ia55 rfl
theorem i55_30 {xs : List Int32} : xtI (xTa xs) 55 30 = some (.bipush 46, 2) := x_ins (j := 14) kk55 ia55 rfl
theorem i55_32 {xs : List Int32} : xtI (xTa xs) 55 32 = some (.invokevirtual 57, 3) := x_ins (j := 15) kk55 ia55 rfl
theorem i55_35 {xs : List Int32} : xtI (xTa xs) 55 35 = some (.aload_n 0, 1) := x_ins (j := 16) kk55 ia55 rfl
theorem i55_36 {xs : List Int32} : xtI (xTa xs) 55 36 = some (.aload_n 1, 1) := x_ins (j := 17) kk55 ia55 rfl
theorem i55_37 {xs : List Int32} : xtI (xTa xs) 55 37 = some (.getfield 68, 3) := x_ins (j := 18) kk55 ia55 rfl
theorem i55_40 {xs : List Int32} : xtI (xTa xs) 55 40 = some (.iconst 0, 1) := x_ins (j := 19) kk55 ia55 rfl
theorem i55_41 {xs : List Int32} : xtI (xTa xs) 55 41 = some (.aload_n 1, 1) := x_ins (j := 20) kk55 ia55 rfl
theorem i55_42 {xs : List Int32} : xtI (xTa xs) 55 42 = some (.getfield 68, 3) := x_ins (j := 21) kk55 ia55 rfl
theorem i55_45 {xs : List Int32} : xtI (xTa xs) 55 45 = some (.getfield 71, 3) := x_ins (j := 22) kk55 ia55 rfl
theorem i55_48 {xs : List Int32} : xtI (xTa xs) 55 48 = some (.invokevirtual 74, 3) := x_ins (j := 23) kk55 ia55 rfl
theorem i55_51 {xs : List Int32} : xtI (xTa xs) 55 51 = some (.return_, 1) := x_ins (j := 24) kk55 ia55 rfl
theorem kk56 : xK0.getD 56 [] = k56 := rfl
set_option maxRecDepth 100000 in
theorem ia56 : (k56.all fun e => decide (k56.lookup e.1 = some e.2)) = true := by decide +kernel
theorem i56_0 {xs : List Int32} : xtI (xTa xs) 56 0 = some (.aload_n 0, 1) := x_ins (j := 0) kk56 ia56 rfl
theorem i56_1 {xs : List Int32} : xtI (xTa xs) 56 1 = some (.getfield 33, 3) := x_ins (j := 1) kk56 ia56 rfl
theorem i56_4 {xs : List Int32} : xtI (xTa xs) 56 4 = some (.aload_n 0, 1) := x_ins (j := 2) kk56 ia56 rfl
theorem i56_5 {xs : List Int32} : xtI (xTa xs) 56 5 = some (.getfield 20, 3) := x_ins (j := 3) kk56 ia56 rfl
theorem i56_8 {xs : List Int32} : xtI (xTa xs) 56 8 = some (.arraylength, 1) := x_ins (j := 4) kk56 ia56 rfl
theorem i56_9 {xs : List Int32} : xtI (xTa xs) 56 9 = some (.if_icmp .lt 9, 3) := x_ins (j := 5) kk56 ia56 rfl
theorem i56_12 {xs : List Int32} : xtI (xTa xs) 56 12 = some (.aload_n 0, 1) := x_ins (j := 6) kk56 ia56 rfl
theorem i56_13 {xs : List Int32} : xtI (xTa xs) 56 13 = some (.iconst 1, 1) := x_ins (j := 7) kk56 ia56 rfl
theorem i56_14 {xs : List Int32} : xtI (xTa xs) 56 14 = some (.putfield 49, 3) := x_ins (j := 8) kk56 ia56 rfl
theorem i56_17 {xs : List Int32} : xtI (xTa xs) 56 17 = some (.return_, 1) := x_ins (j := 9) kk56 ia56 rfl
theorem i56_18 {xs : List Int32} : xtI (xTa xs) 56 18 = some (.aload_n 0, 1) := x_ins (j := 10) kk56 ia56 rfl
theorem i56_19 {xs : List Int32} : xtI (xTa xs) 56 19 = some (.getfield 20, 3) := x_ins (j := 11) kk56 ia56 rfl
theorem i56_22 {xs : List Int32} : xtI (xTa xs) 56 22 = some (.aload_n 0, 1) := x_ins (j := 12) kk56 ia56 rfl
theorem i56_23 {xs : List Int32} : xtI (xTa xs) 56 23 = some (.getfield 33, 3) := x_ins (j := 13) kk56 ia56 rfl
theorem i56_26 {xs : List Int32} : xtI (xTa xs) 56 26 = some (.aload_n 0, 1) := x_ins (j := 14) kk56 ia56 rfl
theorem i56_27 {xs : List Int32} : xtI (xTa xs) 56 27 = some (.getfield 46, 3) := x_ins (j := 15) kk56 ia56 rfl
theorem i56_30 {xs : List Int32} : xtI (xTa xs) 56 30 = some (.iastore, 1) := x_ins (j := 16) kk56 ia56 rfl
theorem i56_31 {xs : List Int32} : xtI (xTa xs) 56 31 = some (.aload_n 0, 1) := x_ins (j := 17) kk56 ia56 rfl
theorem i56_32 {xs : List Int32} : xtI (xTa xs) 56 32 = some (.dup, 1) := x_ins (j := 18) kk56 ia56 rfl
theorem i56_33 {xs : List Int32} : xtI (xTa xs) 56 33 = some (.getfield 33, 3) := x_ins (j := 19) kk56 ia56 rfl
theorem i56_36 {xs : List Int32} : xtI (xTa xs) 56 36 = some (.iconst 1, 1) := x_ins (j := 20) kk56 ia56 rfl
theorem i56_37 {xs : List Int32} : xtI (xTa xs) 56 37 = some (.iadd, 1) := x_ins (j := 21) kk56 ia56 rfl
theorem i56_38 {xs : List Int32} : xtI (xTa xs) 56 38 = some (.putfield 33, 3) := x_ins (j := 22) kk56 ia56 rfl
theorem i56_41 {xs : List Int32} : xtI (xTa xs) 56 41 = some (.aload_n 0, 1) := x_ins (j := 23) kk56 ia56 rfl
theorem i56_42 {xs : List Int32} : xtI (xTa xs) 56 42 = some (.aload_n 0, 1) := x_ins (j := 24) kk56 ia56 rfl
theorem i56_43 {xs : List Int32} : xtI (xTa xs) 56 43 = some (.getfield 43, 3) := x_ins (j := 25) kk56 ia56 rfl
theorem i56_46 {xs : List Int32} : xtI (xTa xs) 56 46 = some (.aload_n 0, 1) := x_ins (j := 26) kk56 ia56 rfl
theorem i56_47 {xs : List Int32} : xtI (xTa xs) 56 47 = some (.getfield 14, 3) := x_ins (j := 27) kk56 ia56 rfl
theorem i56_50 {xs : List Int32} : xtI (xTa xs) 56 50 = some (.getfield 71, 3) := x_ins (j := 28) kk56 ia56 rfl
theorem i56_53 {xs : List Int32} : xtI (xTa xs) 56 53 = some (.aload_n 0, 1) := x_ins (j := 29) kk56 ia56 rfl
theorem i56_54 {xs : List Int32} : xtI (xTa xs) 56 54 = some (.getfield 46, 3) := x_ins (j := 30) kk56 ia56 rfl
theorem i56_57 {xs : List Int32} : xtI (xTa xs) 56 57 = some (.isub, 1) := x_ins (j := 31) kk56 ia56 rfl
theorem i56_58 {xs : List Int32} : xtI (xTa xs) 56 58 = some (.invokestatic 78, 3) := x_ins (j := 32) kk56 ia56 rfl
theorem i56_61 {xs : List Int32} : xtI (xTa xs) 56 61 = some (.putfield 43, 3) := x_ins (j := 33) kk56 ia56 rfl
theorem i56_64 {xs : List Int32} : xtI (xTa xs) 56 64 = some (.aload_n 0, 1) := x_ins (j := 34) kk56 ia56 rfl
theorem i56_65 {xs : List Int32} : xtI (xTa xs) 56 65 = some (.bipush 10, 2) := x_ins (j := 35) kk56 ia56 rfl
theorem i56_67 {xs : List Int32} : xtI (xTa xs) 56 67 = some (.invokevirtual 57, 3) := x_ins (j := 36) kk56 ia56 rfl
theorem i56_70 {xs : List Int32} : xtI (xTa xs) 56 70 = some (.aload_n 0, 1) := x_ins (j := 37) kk56 ia56 rfl
theorem i56_71 {xs : List Int32} : xtI (xTa xs) 56 71 = some (.aload_n 0, 1) := x_ins (j := 38) kk56 ia56 rfl
theorem i56_72 {xs : List Int32} : xtI (xTa xs) 56 72 = some (.getfield 14, 3) := x_ins (j := 39) kk56 ia56 rfl
theorem i56_75 {xs : List Int32} : xtI (xTa xs) 56 75 = some (.getfield 71, 3) := x_ins (j := 40) kk56 ia56 rfl
theorem i56_78 {xs : List Int32} : xtI (xTa xs) 56 78 = some (.putfield 46, 3) := x_ins (j := 41) kk56 ia56 rfl
theorem i56_81 {xs : List Int32} : xtI (xTa xs) 56 81 = some (.return_, 1) := x_ins (j := 42) kk56 ia56 rfl
theorem kk57 : xK0.getD 57 [] = k57 := rfl
set_option maxRecDepth 100000 in
theorem ia57 : (k57.all fun e => decide (k57.lookup e.1 = some e.2)) = true := by decide +kernel
theorem i57_0 {xs : List Int32} : xtI (xTa xs) 57 0 = some (.iload_n 1, 1) := x_ins (j := 0) kk57 ia57 rfl
theorem i57_1 {xs : List Int32} : xtI (xTa xs) 57 1 = some (.iconst 1, 1) := x_ins (j := 1) kk57 ia57 rfl
theorem i57_2 {xs : List Int32} : xtI (xTa xs) 57 2 = some (.if_icmp .lt 11, 3) := x_ins (j := 2) kk57 ia57 rfl
theorem i57_5 {xs : List Int32} : xtI (xTa xs) 57 5 = some (.iload_n 1, 1) := x_ins (j := 3) kk57 ia57 rfl
theorem i57_6 {xs : List Int32} : xtI (xTa xs) 57 6 = some (.aload_n 0, 1) := x_ins (j := 4) kk57 ia57 rfl
theorem i57_7 {xs : List Int32} : xtI (xTa xs) 57 7 = some (.getfield 37, 3) := x_ins (j := 5) kk57 ia57 rfl
theorem i57_10 {xs : List Int32} : xtI (xTa xs) 57 10 = some (.if_icmp .le 7, 3) := x_ins (j := 6) kk57 ia57 rfl
theorem i57_13 {xs : List Int32} : xtI (xTa xs) 57 13 = some (.aconst_null, 1) := x_ins (j := 7) kk57 ia57 rfl
theorem i57_14 {xs : List Int32} : xtI (xTa xs) 57 14 = some (.goto 11, 3) := x_ins (j := 8) kk57 ia57 rfl
theorem i57_17 {xs : List Int32} : xtI (xTa xs) 57 17 = some (.aload_n 0, 1) := x_ins (j := 9) kk57 ia57 rfl
theorem i57_18 {xs : List Int32} : xtI (xTa xs) 57 18 = some (.getfield 26, 3) := x_ins (j := 10) kk57 ia57 rfl
theorem i57_21 {xs : List Int32} : xtI (xTa xs) 57 21 = some (.iload_n 1, 1) := x_ins (j := 11) kk57 ia57 rfl
theorem i57_22 {xs : List Int32} : xtI (xTa xs) 57 22 = some (.iconst 1, 1) := x_ins (j := 12) kk57 ia57 rfl
theorem i57_23 {xs : List Int32} : xtI (xTa xs) 57 23 = some (.isub, 1) := x_ins (j := 13) kk57 ia57 rfl
theorem i57_24 {xs : List Int32} : xtI (xTa xs) 57 24 = some (.aaload, 1) := x_ins (j := 14) kk57 ia57 rfl
theorem i57_25 {xs : List Int32} : xtI (xTa xs) 57 25 = some (.areturn, 1) := x_ins (j := 15) kk57 ia57 rfl
theorem kk58 : xK0.getD 58 [] = k58 := rfl
set_option maxRecDepth 100000 in
theorem ia58 : (k58.all fun e => decide (k58.lookup e.1 = some e.2)) = true := by decide +kernel
theorem i58_0 {xs : List Int32} : xtI (xTa xs) 58 0 = some (.iconst 0, 1) := x_ins (j := 0) kk58 ia58 rfl
theorem i58_1 {xs : List Int32} : xtI (xTa xs) 58 1 = some (.istore_n 2, 1) := x_ins (j := 1) kk58 ia58 rfl
theorem i58_2 {xs : List Int32} : xtI (xTa xs) 58 2 = some (.iload_n 2, 1) := x_ins (j := 2) kk58 ia58 rfl
theorem i58_3 {xs : List Int32} : xtI (xTa xs) 58 3 = some (.aload_n 0, 1) := x_ins (j := 3) kk58 ia58 rfl
theorem i58_4 {xs : List Int32} : xtI (xTa xs) 58 4 = some (.getfield 37, 3) := x_ins (j := 4) kk58 ia58 rfl
theorem i58_7 {xs : List Int32} : xtI (xTa xs) 58 7 = some (.if_icmp .ge 23, 3) := x_ins (j := 5) kk58 ia58 rfl
theorem i58_10 {xs : List Int32} : xtI (xTa xs) 58 10 = some (.aload_n 0, 1) := x_ins (j := 6) kk58 ia58 rfl
theorem i58_11 {xs : List Int32} : xtI (xTa xs) 58 11 = some (.getfield 26, 3) := x_ins (j := 7) kk58 ia58 rfl
theorem i58_14 {xs : List Int32} : xtI (xTa xs) 58 14 = some (.iload_n 2, 1) := x_ins (j := 8) kk58 ia58 rfl
theorem i58_15 {xs : List Int32} : xtI (xTa xs) 58 15 = some (.aaload, 1) := x_ins (j := 9) kk58 ia58 rfl
theorem i58_16 {xs : List Int32} : xtI (xTa xs) 58 16 = some (.aload_n 1, 1) := x_ins (j := 10) kk58 ia58 rfl
theorem i58_17 {xs : List Int32} : xtI (xTa xs) 58 17 = some (.if_acmp .ne 7, 3) := x_ins (j := 11) kk58 ia58 rfl
theorem i58_20 {xs : List Int32} : xtI (xTa xs) 58 20 = some (.iload_n 2, 1) := x_ins (j := 12) kk58 ia58 rfl
theorem i58_21 {xs : List Int32} : xtI (xTa xs) 58 21 = some (.iconst 1, 1) := x_ins (j := 13) kk58 ia58 rfl
theorem i58_22 {xs : List Int32} : xtI (xTa xs) 58 22 = some (.iadd, 1) := x_ins (j := 14) kk58 ia58 rfl
theorem i58_23 {xs : List Int32} : xtI (xTa xs) 58 23 = some (.ireturn, 1) := x_ins (j := 15) kk58 ia58 rfl
theorem i58_24 {xs : List Int32} : xtI (xTa xs) 58 24 = some (.iinc 2 1, 3) := x_ins (j := 16) kk58 ia58 rfl
theorem i58_27 {xs : List Int32} : xtI (xTa xs) 58 27 = some (.goto (-25), 3) := x_ins (j := 17) kk58 ia58 rfl
theorem i58_30 {xs : List Int32} : xtI (xTa xs) 58 30 = some (.aload_n 1, 1) := x_ins (j := 18) kk58 ia58 rfl
theorem i58_31 {xs : List Int32} : xtI (xTa xs) 58 31 = some (.ifnull 15, 3) := x_ins (j := 19) kk58 ia58 rfl
theorem i58_34 {xs : List Int32} : xtI (xTa xs) 58 34 = some (.aload_n 0, 1) := x_ins (j := 20) kk58 ia58 rfl
theorem i58_35 {xs : List Int32} : xtI (xTa xs) 58 35 = some (.getfield 37, 3) := x_ins (j := 21) kk58 ia58 rfl
theorem i58_38 {xs : List Int32} : xtI (xTa xs) 58 38 = some (.aload_n 0, 1) := x_ins (j := 22) kk58 ia58 rfl
theorem i58_39 {xs : List Int32} : xtI (xTa xs) 58 39 = some (.getfield 26, 3) := x_ins (j := 23) kk58 ia58 rfl
theorem i58_42 {xs : List Int32} : xtI (xTa xs) 58 42 = some (.arraylength, 1) := x_ins (j := 24) kk58 ia58 rfl
theorem i58_43 {xs : List Int32} : xtI (xTa xs) 58 43 = some (.if_icmp .lt 5, 3) := x_ins (j := 25) kk58 ia58 rfl
theorem i58_46 {xs : List Int32} : xtI (xTa xs) 58 46 = some (.iconst 0, 1) := x_ins (j := 26) kk58 ia58 rfl
theorem i58_47 {xs : List Int32} : xtI (xTa xs) 58 47 = some (.ireturn, 1) := x_ins (j := 27) kk58 ia58 rfl
theorem i58_48 {xs : List Int32} : xtI (xTa xs) 58 48 = some (.aload_n 0, 1) := x_ins (j := 28) kk58 ia58 rfl
theorem i58_49 {xs : List Int32} : xtI (xTa xs) 58 49 = some (.getfield 26, 3) := x_ins (j := 29) kk58 ia58 rfl
theorem i58_52 {xs : List Int32} : xtI (xTa xs) 58 52 = some (.aload_n 0, 1) := x_ins (j := 30) kk58 ia58 rfl
theorem i58_53 {xs : List Int32} : xtI (xTa xs) 58 53 = some (.getfield 37, 3) := x_ins (j := 31) kk58 ia58 rfl
theorem i58_56 {xs : List Int32} : xtI (xTa xs) 58 56 = some (.aload_n 1, 1) := x_ins (j := 32) kk58 ia58 rfl
theorem i58_57 {xs : List Int32} : xtI (xTa xs) 58 57 = some (.aastore, 1) := x_ins (j := 33) kk58 ia58 rfl
theorem i58_58 {xs : List Int32} : xtI (xTa xs) 58 58 = some (.aload_n 0, 1) := x_ins (j := 34) kk58 ia58 rfl
theorem i58_59 {xs : List Int32} : xtI (xTa xs) 58 59 = some (.dup, 1) := x_ins (j := 35) kk58 ia58 rfl
theorem i58_60 {xs : List Int32} : xtI (xTa xs) 58 60 = some (.getfield 37, 3) := x_ins (j := 36) kk58 ia58 rfl
theorem i58_63 {xs : List Int32} : xtI (xTa xs) 58 63 = some (.iconst 1, 1) := x_ins (j := 37) kk58 ia58 rfl
theorem i58_64 {xs : List Int32} : xtI (xTa xs) 58 64 = some (.iadd, 1) := x_ins (j := 38) kk58 ia58 rfl
theorem i58_65 {xs : List Int32} : xtI (xTa xs) 58 65 = some (.putfield 37, 3) := x_ins (j := 39) kk58 ia58 rfl
theorem i58_68 {xs : List Int32} : xtI (xTa xs) 58 68 = some (.aload_n 0, 1) := x_ins (j := 40) kk58 ia58 rfl
theorem i58_69 {xs : List Int32} : xtI (xTa xs) 58 69 = some (.getfield 37, 3) := x_ins (j := 41) kk58 ia58 rfl
theorem i58_72 {xs : List Int32} : xtI (xTa xs) 58 72 = some (.ireturn, 1) := x_ins (j := 42) kk58 ia58 rfl
theorem kk59 : xK0.getD 59 [] = k59 := rfl
set_option maxRecDepth 100000 in
theorem ia59 : (k59.all fun e => decide (k59.lookup e.1 = some e.2)) = true := by decide +kernel
theorem i59_0 {xs : List Int32} : xtI (xTa xs) 59 0 = some (.aload_n 0, 1) := x_ins (j := 0) kk59 ia59 rfl
theorem i59_1 {xs : List Int32} : xtI (xTa xs) 59 1 = some (.invokespecial 1, 3) := x_ins (j := 1) kk59 ia59 rfl
theorem i59_4 {xs : List Int32} : xtI (xTa xs) 59 4 = some (.return_, 1) := x_ins (j := 2) kk59 ia59 rfl
theorem kk60 : xK0.getD 60 [] = k60 := rfl
set_option maxRecDepth 100000 in
theorem ia60 : (k60.all fun e => decide (k60.lookup e.1 = some e.2)) = true := by decide +kernel
theorem i60_0 {xs : List Int32} : xtI (xTa xs) 60 0 = some (.aload_n 0, 1) := x_ins (j := 0) kk60 ia60 rfl
theorem i60_1 {xs : List Int32} : xtI (xTa xs) 60 1 = some (.invokespecial 3, 3) := x_ins (j := 1) kk60 ia60 rfl
theorem i60_4 {xs : List Int32} : xtI (xTa xs) 60 4 = some (.aload_n 0, 1) := x_ins (j := 2) kk60 ia60 rfl
theorem i60_5 {xs : List Int32} : xtI (xTa xs) 60 5 = some (.new 9, 3) := x_ins (j := 3) kk60 ia60 rfl
theorem i60_8 {xs : List Int32} : xtI (xTa xs) 60 8 = some (.dup, 1) := x_ins (j := 4) kk60 ia60 rfl
theorem i60_9 {xs : List Int32} : xtI (xTa xs) 60 9 = some (.bipush 10, 2) := x_ins (j := 5) kk60 ia60 rfl
theorem i60_11 {xs : List Int32} : xtI (xTa xs) 60 11 = some (.invokespecial 11, 3) := x_ins (j := 6) kk60 ia60 rfl
theorem i60_14 {xs : List Int32} : xtI (xTa xs) 60 14 = some (.putfield 14, 3) := x_ins (j := 7) kk60 ia60 rfl
theorem i60_17 {xs : List Int32} : xtI (xTa xs) 60 17 = some (.return_, 1) := x_ins (j := 8) kk60 ia60 rfl
theorem kk61 : xK0.getD 61 [] = k61 := rfl
set_option maxRecDepth 100000 in
theorem ia61 : (k61.all fun e => decide (k61.lookup e.1 = some e.2)) = true := by decide +kernel
theorem i61_0 {xs : List Int32} : xtI (xTa xs) 61 0 = some (.aload_n 0, 1) := x_ins (j := 0) kk61 ia61 rfl
theorem i61_1 {xs : List Int32} : xtI (xTa xs) 61 1 = some (.aload_n 1, 1) := x_ins (j := 1) kk61 ia61 rfl
theorem i61_2 {xs : List Int32} : xtI (xTa xs) 61 2 = some (.putfield 20, 3) := x_ins (j := 2) kk61 ia61 rfl
theorem i61_5 {xs : List Int32} : xtI (xTa xs) 61 5 = some (.aload_n 0, 1) := x_ins (j := 3) kk61 ia61 rfl
theorem i61_6 {xs : List Int32} : xtI (xTa xs) 61 6 = some (.aload_n 1, 1) := x_ins (j := 4) kk61 ia61 rfl
theorem i61_7 {xs : List Int32} : xtI (xTa xs) 61 7 = some (.getfield 24, 3) := x_ins (j := 5) kk61 ia61 rfl
theorem i61_10 {xs : List Int32} : xtI (xTa xs) 61 10 = some (.putfield 29, 3) := x_ins (j := 6) kk61 ia61 rfl
theorem i61_13 {xs : List Int32} : xtI (xTa xs) 61 13 = some (.aload_n 0, 1) := x_ins (j := 7) kk61 ia61 rfl
theorem i61_14 {xs : List Int32} : xtI (xTa xs) 61 14 = some (.aconst_null, 1) := x_ins (j := 8) kk61 ia61 rfl
theorem i61_15 {xs : List Int32} : xtI (xTa xs) 61 15 = some (.putfield 30, 3) := x_ins (j := 9) kk61 ia61 rfl
theorem i61_18 {xs : List Int32} : xtI (xTa xs) 61 18 = some (.aload_n 0, 1) := x_ins (j := 10) kk61 ia61 rfl
theorem i61_19 {xs : List Int32} : xtI (xTa xs) 61 19 = some (.iconst 1, 1) := x_ins (j := 11) kk61 ia61 rfl
theorem i61_20 {xs : List Int32} : xtI (xTa xs) 61 20 = some (.putfield 34, 3) := x_ins (j := 12) kk61 ia61 rfl
theorem i61_23 {xs : List Int32} : xtI (xTa xs) 61 23 = some (.aload_n 0, 1) := x_ins (j := 13) kk61 ia61 rfl
theorem i61_24 {xs : List Int32} : xtI (xTa xs) 61 24 = some (.iconst 0, 1) := x_ins (j := 14) kk61 ia61 rfl
theorem i61_25 {xs : List Int32} : xtI (xTa xs) 61 25 = some (.putfield 38, 3) := x_ins (j := 15) kk61 ia61 rfl
theorem i61_28 {xs : List Int32} : xtI (xTa xs) 61 28 = some (.aload_n 0, 1) := x_ins (j := 16) kk61 ia61 rfl
theorem i61_29 {xs : List Int32} : xtI (xTa xs) 61 29 = some (.iconst 0, 1) := x_ins (j := 17) kk61 ia61 rfl
theorem i61_30 {xs : List Int32} : xtI (xTa xs) 61 30 = some (.putfield 42, 3) := x_ins (j := 18) kk61 ia61 rfl
theorem i61_33 {xs : List Int32} : xtI (xTa xs) 61 33 = some (.aload_n 0, 1) := x_ins (j := 19) kk61 ia61 rfl
theorem i61_34 {xs : List Int32} : xtI (xTa xs) 61 34 = some (.invokevirtual 45, 3) := x_ins (j := 20) kk61 ia61 rfl
theorem i61_37 {xs : List Int32} : xtI (xTa xs) 61 37 = some (.iconst 0, 1) := x_ins (j := 21) kk61 ia61 rfl
theorem i61_38 {xs : List Int32} : xtI (xTa xs) 61 38 = some (.istore_n 2, 1) := x_ins (j := 22) kk61 ia61 rfl
theorem i61_39 {xs : List Int32} : xtI (xTa xs) 61 39 = some (.iconst 0, 1) := x_ins (j := 23) kk61 ia61 rfl
theorem i61_40 {xs : List Int32} : xtI (xTa xs) 61 40 = some (.istore_n 3, 1) := x_ins (j := 24) kk61 ia61 rfl
theorem i61_41 {xs : List Int32} : xtI (xTa xs) 61 41 = some (.iload_n 3, 1) := x_ins (j := 25) kk61 ia61 rfl
theorem i61_42 {xs : List Int32} : xtI (xTa xs) 61 42 = some (.sipush 600, 3) := x_ins (j := 26) kk61 ia61 rfl
theorem i61_45 {xs : List Int32} : xtI (xTa xs) 61 45 = some (.if_icmp .ge 139, 3) := x_ins (j := 27) kk61 ia61 rfl
theorem i61_48 {xs : List Int32} : xtI (xTa xs) 61 48 = some (.iload_n 2, 1) := x_ins (j := 28) kk61 ia61 rfl
theorem i61_49 {xs : List Int32} : xtI (xTa xs) 61 49 = some (.aload_n 0, 1) := x_ins (j := 29) kk61 ia61 rfl
theorem i61_50 {xs : List Int32} : xtI (xTa xs) 61 50 = some (.getfield 29, 3) := x_ins (j := 30) kk61 ia61 rfl
theorem i61_53 {xs : List Int32} : xtI (xTa xs) 61 53 = some (.getfield 48, 3) := x_ins (j := 31) kk61 ia61 rfl
theorem i61_56 {xs : List Int32} : xtI (xTa xs) 61 56 = some (.if_icmp .ge 128, 3) := x_ins (j := 32) kk61 ia61 rfl
theorem i61_59 {xs : List Int32} : xtI (xTa xs) 61 59 = some (.aload_n 0, 1) := x_ins (j := 33) kk61 ia61 rfl
theorem i61_60 {xs : List Int32} : xtI (xTa xs) 61 60 = some (.getfield 38, 3) := x_ins (j := 34) kk61 ia61 rfl
theorem i61_63 {xs : List Int32} : xtI (xTa xs) 61 63 = some (.ifCond .ne 121, 3) := x_ins (j := 35) kk61 ia61 rfl
theorem i61_66 {xs : List Int32} : xtI (xTa xs) 61 66 = some (.aload_n 0, 1) := x_ins (j := 36) kk61 ia61 rfl
theorem i61_67 {xs : List Int32} : xtI (xTa xs) 61 67 = some (.getfield 29, 3) := x_ins (j := 37) kk61 ia61 rfl
theorem i61_70 {xs : List Int32} : xtI (xTa xs) 61 70 = some (.bipush 10, 2) := x_ins (j := 38) kk61 ia61 rfl
theorem i61_72 {xs : List Int32} : xtI (xTa xs) 61 72 = some (.iload_n 2, 1) := x_ins (j := 39) kk61 ia61 rfl
theorem i61_73 {xs : List Int32} : xtI (xTa xs) 61 73 = some (.aload_n 0, 1) := x_ins (j := 40) kk61 ia61 rfl
theorem i61_74 {xs : List Int32} : xtI (xTa xs) 61 74 = some (.getfield 29, 3) := x_ins (j := 41) kk61 ia61 rfl
theorem i61_77 {xs : List Int32} : xtI (xTa xs) 61 77 = some (.getfield 48, 3) := x_ins (j := 42) kk61 ia61 rfl
theorem i61_80 {xs : List Int32} : xtI (xTa xs) 61 80 = some (.invokevirtual 51, 3) := x_ins (j := 43) kk61 ia61 rfl
theorem i61_83 {xs : List Int32} : xtI (xTa xs) 61 83 = some (.istore 4, 2) := x_ins (j := 44) kk61 ia61 rfl
theorem i61_85 {xs : List Int32} : xtI (xTa xs) 61 85 = some (.aload_n 0, 1) := x_ins (j := 45) kk61 ia61 rfl
theorem i61_86 {xs : List Int32} : xtI (xTa xs) 61 86 = some (.getfield 29, 3) := x_ins (j := 46) kk61 ia61 rfl
theorem i61_89 {xs : List Int32} : xtI (xTa xs) 61 89 = some (.iload_n 2, 1) := x_ins (j := 47) kk61 ia61 rfl
theorem i61_90 {xs : List Int32} : xtI (xTa xs) 61 90 = some (.iload 4, 2) := x_ins (j := 48) kk61 ia61 rfl
theorem i61_92 {xs : List Int32} : xtI (xTa xs) 61 92 = some (.invokevirtual 55, 3) := x_ins (j := 49) kk61 ia61 rfl
theorem i61_95 {xs : List Int32} : xtI (xTa xs) 61 95 = some (.istore 5, 2) := x_ins (j := 50) kk61 ia61 rfl
theorem i61_97 {xs : List Int32} : xtI (xTa xs) 61 97 = some (.aload_n 0, 1) := x_ins (j := 51) kk61 ia61 rfl
theorem i61_98 {xs : List Int32} : xtI (xTa xs) 61 98 = some (.iload 5, 2) := x_ins (j := 52) kk61 ia61 rfl
theorem i61_100 {xs : List Int32} : xtI (xTa xs) 61 100 = some (.iload 4, 2) := x_ins (j := 53) kk61 ia61 rfl
theorem i61_102 {xs : List Int32} : xtI (xTa xs) 61 102 = some (.invokevirtual 59, 3) := x_ins (j := 54) kk61 ia61 rfl
theorem i61_105 {xs : List Int32} : xtI (xTa xs) 61 105 = some (.istore 6, 2) := x_ins (j := 55) kk61 ia61 rfl
theorem i61_107 {xs : List Int32} : xtI (xTa xs) 61 107 = some (.iload 6, 2) := x_ins (j := 56) kk61 ia61 rfl
theorem i61_109 {xs : List Int32} : xtI (xTa xs) 61 109 = some (.iconst 1, 1) := x_ins (j := 57) kk61 ia61 rfl
theorem i61_110 {xs : List Int32} : xtI (xTa xs) 61 110 = some (.if_icmp .ne 14, 3) := x_ins (j := 58) kk61 ia61 rfl
theorem i61_113 {xs : List Int32} : xtI (xTa xs) 61 113 = some (.aload_n 0, 1) := x_ins (j := 59) kk61 ia61 rfl
theorem i61_114 {xs : List Int32} : xtI (xTa xs) 61 114 = some (.iload 5, 2) := x_ins (j := 60) kk61 ia61 rfl
theorem i61_116 {xs : List Int32} : xtI (xTa xs) 61 116 = some (.iload 4, 2) := x_ins (j := 61) kk61 ia61 rfl
theorem i61_118 {xs : List Int32} : xtI (xTa xs) 61 118 = some (.invokevirtual 62, 3) := x_ins (j := 62) kk61 ia61 rfl
theorem i61_121 {xs : List Int32} : xtI (xTa xs) 61 121 = some (.goto 38, 3) := x_ins (j := 63) kk61 ia61 rfl
theorem i61_124 {xs : List Int32} : xtI (xTa xs) 61 124 = some (.iload 6, 2) := x_ins (j := 64) kk61 ia61 rfl
theorem i61_126 {xs : List Int32} : xtI (xTa xs) 61 126 = some (.iconst 2, 1) := x_ins (j := 65) kk61 ia61 rfl
theorem i61_127 {xs : List Int32} : xtI (xTa xs) 61 127 = some (.if_icmp .ne 18, 3) := x_ins (j := 66) kk61 ia61 rfl
theorem i61_130 {xs : List Int32} : xtI (xTa xs) 61 130 = some (.aload_n 0, 1) := x_ins (j := 67) kk61 ia61 rfl
theorem i61_131 {xs : List Int32} : xtI (xTa xs) 61 131 = some (.iload 5, 2) := x_ins (j := 68) kk61 ia61 rfl
theorem i61_133 {xs : List Int32} : xtI (xTa xs) 61 133 = some (.iload 4, 2) := x_ins (j := 69) kk61 ia61 rfl
theorem i61_135 {xs : List Int32} : xtI (xTa xs) 61 135 = some (.iload 5, 2) := x_ins (j := 70) kk61 ia61 rfl
theorem i61_137 {xs : List Int32} : xtI (xTa xs) 61 137 = some (.iload_n 2, 1) := x_ins (j := 71) kk61 ia61 rfl
theorem i61_138 {xs : List Int32} : xtI (xTa xs) 61 138 = some (.isub, 1) := x_ins (j := 72) kk61 ia61 rfl
theorem i61_139 {xs : List Int32} : xtI (xTa xs) 61 139 = some (.invokevirtual 66, 3) := x_ins (j := 73) kk61 ia61 rfl
theorem i61_142 {xs : List Int32} : xtI (xTa xs) 61 142 = some (.goto 17, 3) := x_ins (j := 74) kk61 ia61 rfl
theorem i61_145 {xs : List Int32} : xtI (xTa xs) 61 145 = some (.iload 6, 2) := x_ins (j := 75) kk61 ia61 rfl
theorem i61_147 {xs : List Int32} : xtI (xTa xs) 61 147 = some (.iconst 3, 1) := x_ins (j := 76) kk61 ia61 rfl
theorem i61_148 {xs : List Int32} : xtI (xTa xs) 61 148 = some (.if_icmp .ne 11, 3) := x_ins (j := 77) kk61 ia61 rfl
theorem i61_151 {xs : List Int32} : xtI (xTa xs) 61 151 = some (.aload_n 0, 1) := x_ins (j := 78) kk61 ia61 rfl
theorem i61_152 {xs : List Int32} : xtI (xTa xs) 61 152 = some (.iload 5, 2) := x_ins (j := 79) kk61 ia61 rfl
theorem i61_154 {xs : List Int32} : xtI (xTa xs) 61 154 = some (.iload 4, 2) := x_ins (j := 80) kk61 ia61 rfl
theorem i61_156 {xs : List Int32} : xtI (xTa xs) 61 156 = some (.invokevirtual 70, 3) := x_ins (j := 81) kk61 ia61 rfl
theorem i61_159 {xs : List Int32} : xtI (xTa xs) 61 159 = some (.aload_n 0, 1) := x_ins (j := 82) kk61 ia61 rfl
theorem i61_160 {xs : List Int32} : xtI (xTa xs) 61 160 = some (.iload 6, 2) := x_ins (j := 83) kk61 ia61 rfl
theorem i61_162 {xs : List Int32} : xtI (xTa xs) 61 162 = some (.ifCond .ne 7, 3) := x_ins (j := 84) kk61 ia61 rfl
theorem i61_165 {xs : List Int32} : xtI (xTa xs) 61 165 = some (.iconst 1, 1) := x_ins (j := 85) kk61 ia61 rfl
theorem i61_166 {xs : List Int32} : xtI (xTa xs) 61 166 = some (.goto 4, 3) := x_ins (j := 86) kk61 ia61 rfl
theorem i61_169 {xs : List Int32} : xtI (xTa xs) 61 169 = some (.iconst 0, 1) := x_ins (j := 87) kk61 ia61 rfl
theorem i61_170 {xs : List Int32} : xtI (xTa xs) 61 170 = some (.putfield 34, 3) := x_ins (j := 88) kk61 ia61 rfl
theorem i61_173 {xs : List Int32} : xtI (xTa xs) 61 173 = some (.iload 4, 2) := x_ins (j := 89) kk61 ia61 rfl
theorem i61_175 {xs : List Int32} : xtI (xTa xs) 61 175 = some (.iconst 1, 1) := x_ins (j := 90) kk61 ia61 rfl
theorem i61_176 {xs : List Int32} : xtI (xTa xs) 61 176 = some (.iadd, 1) := x_ins (j := 91) kk61 ia61 rfl
theorem i61_177 {xs : List Int32} : xtI (xTa xs) 61 177 = some (.istore_n 2, 1) := x_ins (j := 92) kk61 ia61 rfl
theorem i61_178 {xs : List Int32} : xtI (xTa xs) 61 178 = some (.iinc 3 1, 3) := x_ins (j := 93) kk61 ia61 rfl
theorem i61_181 {xs : List Int32} : xtI (xTa xs) 61 181 = some (.goto (-140), 3) := x_ins (j := 94) kk61 ia61 rfl
theorem i61_184 {xs : List Int32} : xtI (xTa xs) 61 184 = some (.return_, 1) := x_ins (j := 95) kk61 ia61 rfl
theorem kk62 : xK0.getD 62 [] = k62 := rfl
set_option maxRecDepth 100000 in
theorem ia62 : (k62.all fun e => decide (k62.lookup e.1 = some e.2)) = true := by decide +kernel
theorem i62_0 {xs : List Int32} : xtI (xTa xs) 62 0 = some (.aload_n 0, 1) := x_ins (j := 0) kk62 ia62 rfl
theorem i62_1 {xs : List Int32} : xtI (xTa xs) 62 1 = some (.getfield 38, 3) := x_ins (j := 1) kk62 ia62 rfl
theorem i62_4 {xs : List Int32} : xtI (xTa xs) 62 4 = some (.ifCond .eq 27, 3) := x_ins (j := 2) kk62 ia62 rfl
theorem i62_7 {xs : List Int32} : xtI (xTa xs) 62 7 = some (.iload_n 1, 1) := x_ins (j := 3) kk62 ia62 rfl
theorem i62_8 {xs : List Int32} : xtI (xTa xs) 62 8 = some (.aload_n 0, 1) := x_ins (j := 4) kk62 ia62 rfl
theorem i62_9 {xs : List Int32} : xtI (xTa xs) 62 9 = some (.getfield 42, 3) := x_ins (j := 5) kk62 ia62 rfl
theorem i62_12 {xs : List Int32} : xtI (xTa xs) 62 12 = some (.if_icmp .lt 19, 3) := x_ins (j := 6) kk62 ia62 rfl
theorem i62_15 {xs : List Int32} : xtI (xTa xs) 62 15 = some (.iload_n 1, 1) := x_ins (j := 7) kk62 ia62 rfl
theorem i62_16 {xs : List Int32} : xtI (xTa xs) 62 16 = some (.aload_n 0, 1) := x_ins (j := 8) kk62 ia62 rfl
theorem i62_17 {xs : List Int32} : xtI (xTa xs) 62 17 = some (.getfield 42, 3) := x_ins (j := 9) kk62 ia62 rfl
theorem i62_20 {xs : List Int32} : xtI (xTa xs) 62 20 = some (.if_icmp .ne 21, 3) := x_ins (j := 10) kk62 ia62 rfl
theorem i62_23 {xs : List Int32} : xtI (xTa xs) 62 23 = some (.iload_n 2, 1) := x_ins (j := 11) kk62 ia62 rfl
theorem i62_24 {xs : List Int32} : xtI (xTa xs) 62 24 = some (.aload_n 0, 1) := x_ins (j := 12) kk62 ia62 rfl
theorem i62_25 {xs : List Int32} : xtI (xTa xs) 62 25 = some (.getfield 38, 3) := x_ins (j := 13) kk62 ia62 rfl
theorem i62_28 {xs : List Int32} : xtI (xTa xs) 62 28 = some (.if_icmp .ge 13, 3) := x_ins (j := 14) kk62 ia62 rfl
theorem i62_31 {xs : List Int32} : xtI (xTa xs) 62 31 = some (.aload_n 0, 1) := x_ins (j := 15) kk62 ia62 rfl
theorem i62_32 {xs : List Int32} : xtI (xTa xs) 62 32 = some (.iload_n 2, 1) := x_ins (j := 16) kk62 ia62 rfl
theorem i62_33 {xs : List Int32} : xtI (xTa xs) 62 33 = some (.putfield 38, 3) := x_ins (j := 17) kk62 ia62 rfl
theorem i62_36 {xs : List Int32} : xtI (xTa xs) 62 36 = some (.aload_n 0, 1) := x_ins (j := 18) kk62 ia62 rfl
theorem i62_37 {xs : List Int32} : xtI (xTa xs) 62 37 = some (.iload_n 1, 1) := x_ins (j := 19) kk62 ia62 rfl
theorem i62_38 {xs : List Int32} : xtI (xTa xs) 62 38 = some (.putfield 42, 3) := x_ins (j := 20) kk62 ia62 rfl
theorem i62_41 {xs : List Int32} : xtI (xTa xs) 62 41 = some (.return_, 1) := x_ins (j := 21) kk62 ia62 rfl
theorem kk63 : xK0.getD 63 [] = k63 := rfl
set_option maxRecDepth 100000 in
theorem ia63 : (k63.all fun e => decide (k63.lookup e.1 = some e.2)) = true := by decide +kernel
theorem i63_0 {xs : List Int32} : xtI (xTa xs) 63 0 = some (.iconst 0, 1) := x_ins (j := 0) kk63 ia63 rfl
theorem i63_1 {xs : List Int32} : xtI (xTa xs) 63 1 = some (.istore_n 1, 1) := x_ins (j := 1) kk63 ia63 rfl
theorem i63_2 {xs : List Int32} : xtI (xTa xs) 63 2 = some (.iload_n 1, 1) := x_ins (j := 2) kk63 ia63 rfl
theorem i63_3 {xs : List Int32} : xtI (xTa xs) 63 3 = some (.aload_n 0, 1) := x_ins (j := 3) kk63 ia63 rfl
theorem i63_4 {xs : List Int32} : xtI (xTa xs) 63 4 = some (.getfield 29, 3) := x_ins (j := 4) kk63 ia63 rfl
theorem i63_7 {xs : List Int32} : xtI (xTa xs) 63 7 = some (.getfield 48, 3) := x_ins (j := 5) kk63 ia63 rfl
theorem i63_10 {xs : List Int32} : xtI (xTa xs) 63 10 = some (.if_icmp .ge 53, 3) := x_ins (j := 6) kk63 ia63 rfl
theorem i63_13 {xs : List Int32} : xtI (xTa xs) 63 13 = some (.aload_n 0, 1) := x_ins (j := 7) kk63 ia63 rfl
theorem i63_14 {xs : List Int32} : xtI (xTa xs) 63 14 = some (.getfield 38, 3) := x_ins (j := 8) kk63 ia63 rfl
theorem i63_17 {xs : List Int32} : xtI (xTa xs) 63 17 = some (.ifCond .ne 46, 3) := x_ins (j := 9) kk63 ia63 rfl
theorem i63_20 {xs : List Int32} : xtI (xTa xs) 63 20 = some (.aload_n 0, 1) := x_ins (j := 10) kk63 ia63 rfl
theorem i63_21 {xs : List Int32} : xtI (xTa xs) 63 21 = some (.getfield 29, 3) := x_ins (j := 11) kk63 ia63 rfl
theorem i63_24 {xs : List Int32} : xtI (xTa xs) 63 24 = some (.iload_n 1, 1) := x_ins (j := 12) kk63 ia63 rfl
theorem i63_25 {xs : List Int32} : xtI (xTa xs) 63 25 = some (.invokevirtual 73, 3) := x_ins (j := 13) kk63 ia63 rfl
theorem i63_28 {xs : List Int32} : xtI (xTa xs) 63 28 = some (.bipush 10, 2) := x_ins (j := 14) kk63 ia63 rfl
theorem i63_30 {xs : List Int32} : xtI (xTa xs) 63 30 = some (.if_icmp .eq 27, 3) := x_ins (j := 15) kk63 ia63 rfl
theorem i63_33 {xs : List Int32} : xtI (xTa xs) 63 33 = some (.aload_n 0, 1) := x_ins (j := 16) kk63 ia63 rfl
theorem i63_34 {xs : List Int32} : xtI (xTa xs) 63 34 = some (.getfield 29, 3) := x_ins (j := 17) kk63 ia63 rfl
theorem i63_37 {xs : List Int32} : xtI (xTa xs) 63 37 = some (.iload_n 1, 1) := x_ins (j := 18) kk63 ia63 rfl
theorem i63_38 {xs : List Int32} : xtI (xTa xs) 63 38 = some (.invokevirtual 73, 3) := x_ins (j := 19) kk63 ia63 rfl
theorem i63_41 {xs : List Int32} : xtI (xTa xs) 63 41 = some (.bipush 32, 2) := x_ins (j := 20) kk63 ia63 rfl
theorem i63_43 {xs : List Int32} : xtI (xTa xs) 63 43 = some (.bipush 126, 2) := x_ins (j := 21) kk63 ia63 rfl
theorem i63_45 {xs : List Int32} : xtI (xTa xs) 63 45 = some (.invokestatic 77, 3) := x_ins (j := 22) kk63 ia63 rfl
theorem i63_48 {xs : List Int32} : xtI (xTa xs) 63 48 = some (.ifCond .ne 9, 3) := x_ins (j := 23) kk63 ia63 rfl
theorem i63_51 {xs : List Int32} : xtI (xTa xs) 63 51 = some (.aload_n 0, 1) := x_ins (j := 24) kk63 ia63 rfl
theorem i63_52 {xs : List Int32} : xtI (xTa xs) 63 52 = some (.iload_n 1, 1) := x_ins (j := 25) kk63 ia63 rfl
theorem i63_53 {xs : List Int32} : xtI (xTa xs) 63 53 = some (.iconst 1, 1) := x_ins (j := 26) kk63 ia63 rfl
theorem i63_54 {xs : List Int32} : xtI (xTa xs) 63 54 = some (.invokevirtual 81, 3) := x_ins (j := 27) kk63 ia63 rfl
theorem i63_57 {xs : List Int32} : xtI (xTa xs) 63 57 = some (.iinc 1 1, 3) := x_ins (j := 28) kk63 ia63 rfl
theorem i63_60 {xs : List Int32} : xtI (xTa xs) 63 60 = some (.goto (-58), 3) := x_ins (j := 29) kk63 ia63 rfl
theorem i63_63 {xs : List Int32} : xtI (xTa xs) 63 63 = some (.return_, 1) := x_ins (j := 30) kk63 ia63 rfl
theorem kk64 : xK0.getD 64 [] = k64 := rfl
set_option maxRecDepth 100000 in
theorem ia64 : (k64.all fun e => decide (k64.lookup e.1 = some e.2)) = true := by decide +kernel
theorem i64_0 {xs : List Int32} : xtI (xTa xs) 64 0 = some (.iload_n 1, 1) := x_ins (j := 0) kk64 ia64 rfl
theorem i64_1 {xs : List Int32} : xtI (xTa xs) 64 1 = some (.iload_n 2, 1) := x_ins (j := 1) kk64 ia64 rfl
theorem i64_2 {xs : List Int32} : xtI (xTa xs) 64 2 = some (.if_icmp .lt 5, 3) := x_ins (j := 2) kk64 ia64 rfl
theorem i64_5 {xs : List Int32} : xtI (xTa xs) 64 5 = some (.iconst 0, 1) := x_ins (j := 3) kk64 ia64 rfl
theorem i64_6 {xs : List Int32} : xtI (xTa xs) 64 6 = some (.ireturn, 1) := x_ins (j := 4) kk64 ia64 rfl
theorem i64_7 {xs : List Int32} : xtI (xTa xs) 64 7 = some (.aload_n 0, 1) := x_ins (j := 5) kk64 ia64 rfl
theorem i64_8 {xs : List Int32} : xtI (xTa xs) 64 8 = some (.getfield 29, 3) := x_ins (j := 6) kk64 ia64 rfl
theorem i64_11 {xs : List Int32} : xtI (xTa xs) 64 11 = some (.iload_n 1, 1) := x_ins (j := 7) kk64 ia64 rfl
theorem i64_12 {xs : List Int32} : xtI (xTa xs) 64 12 = some (.invokevirtual 73, 3) := x_ins (j := 8) kk64 ia64 rfl
theorem i64_15 {xs : List Int32} : xtI (xTa xs) 64 15 = some (.bipush 64, 2) := x_ins (j := 9) kk64 ia64 rfl
theorem i64_17 {xs : List Int32} : xtI (xTa xs) 64 17 = some (.if_icmp .ne 5, 3) := x_ins (j := 10) kk64 ia64 rfl
theorem i64_20 {xs : List Int32} : xtI (xTa xs) 64 20 = some (.iconst 1, 1) := x_ins (j := 11) kk64 ia64 rfl
theorem i64_21 {xs : List Int32} : xtI (xTa xs) 64 21 = some (.ireturn, 1) := x_ins (j := 12) kk64 ia64 rfl
theorem i64_22 {xs : List Int32} : xtI (xTa xs) 64 22 = some (.aload_n 0, 1) := x_ins (j := 13) kk64 ia64 rfl
theorem i64_23 {xs : List Int32} : xtI (xTa xs) 64 23 = some (.getfield 29, 3) := x_ins (j := 14) kk64 ia64 rfl
theorem i64_26 {xs : List Int32} : xtI (xTa xs) 64 26 = some (.iload_n 1, 1) := x_ins (j := 15) kk64 ia64 rfl
theorem i64_27 {xs : List Int32} : xtI (xTa xs) 64 27 = some (.invokevirtual 73, 3) := x_ins (j := 16) kk64 ia64 rfl
theorem i64_30 {xs : List Int32} : xtI (xTa xs) 64 30 = some (.bipush 45, 2) := x_ins (j := 17) kk64 ia64 rfl
theorem i64_32 {xs : List Int32} : xtI (xTa xs) 64 32 = some (.if_icmp .ne 29, 3) := x_ins (j := 18) kk64 ia64 rfl
theorem i64_35 {xs : List Int32} : xtI (xTa xs) 64 35 = some (.iload_n 1, 1) := x_ins (j := 19) kk64 ia64 rfl
theorem i64_36 {xs : List Int32} : xtI (xTa xs) 64 36 = some (.iconst 1, 1) := x_ins (j := 20) kk64 ia64 rfl
theorem i64_37 {xs : List Int32} : xtI (xTa xs) 64 37 = some (.iadd, 1) := x_ins (j := 21) kk64 ia64 rfl
theorem i64_38 {xs : List Int32} : xtI (xTa xs) 64 38 = some (.iload_n 2, 1) := x_ins (j := 22) kk64 ia64 rfl
theorem i64_39 {xs : List Int32} : xtI (xTa xs) 64 39 = some (.if_icmp .eq 18, 3) := x_ins (j := 23) kk64 ia64 rfl
theorem i64_42 {xs : List Int32} : xtI (xTa xs) 64 42 = some (.aload_n 0, 1) := x_ins (j := 24) kk64 ia64 rfl
theorem i64_43 {xs : List Int32} : xtI (xTa xs) 64 43 = some (.getfield 29, 3) := x_ins (j := 25) kk64 ia64 rfl
theorem i64_46 {xs : List Int32} : xtI (xTa xs) 64 46 = some (.iload_n 1, 1) := x_ins (j := 26) kk64 ia64 rfl
theorem i64_47 {xs : List Int32} : xtI (xTa xs) 64 47 = some (.iconst 1, 1) := x_ins (j := 27) kk64 ia64 rfl
theorem i64_48 {xs : List Int32} : xtI (xTa xs) 64 48 = some (.iadd, 1) := x_ins (j := 28) kk64 ia64 rfl
theorem i64_49 {xs : List Int32} : xtI (xTa xs) 64 49 = some (.invokevirtual 73, 3) := x_ins (j := 29) kk64 ia64 rfl
theorem i64_52 {xs : List Int32} : xtI (xTa xs) 64 52 = some (.bipush 32, 2) := x_ins (j := 30) kk64 ia64 rfl
theorem i64_54 {xs : List Int32} : xtI (xTa xs) 64 54 = some (.if_icmp .ne 7, 3) := x_ins (j := 31) kk64 ia64 rfl
theorem i64_57 {xs : List Int32} : xtI (xTa xs) 64 57 = some (.iconst 1, 1) := x_ins (j := 32) kk64 ia64 rfl
theorem i64_58 {xs : List Int32} : xtI (xTa xs) 64 58 = some (.goto 4, 3) := x_ins (j := 33) kk64 ia64 rfl
theorem i64_61 {xs : List Int32} : xtI (xTa xs) 64 61 = some (.iconst 0, 1) := x_ins (j := 34) kk64 ia64 rfl
theorem i64_62 {xs : List Int32} : xtI (xTa xs) 64 62 = some (.istore_n 3, 1) := x_ins (j := 35) kk64 ia64 rfl
theorem i64_63 {xs : List Int32} : xtI (xTa xs) 64 63 = some (.iload_n 3, 1) := x_ins (j := 36) kk64 ia64 rfl
theorem i64_64 {xs : List Int32} : xtI (xTa xs) 64 64 = some (.ifCond .eq 7, 3) := x_ins (j := 37) kk64 ia64 rfl
theorem i64_67 {xs : List Int32} : xtI (xTa xs) 64 67 = some (.iconst 2, 1) := x_ins (j := 38) kk64 ia64 rfl
theorem i64_68 {xs : List Int32} : xtI (xTa xs) 64 68 = some (.goto 4, 3) := x_ins (j := 39) kk64 ia64 rfl
theorem i64_71 {xs : List Int32} : xtI (xTa xs) 64 71 = some (.iconst 3, 1) := x_ins (j := 40) kk64 ia64 rfl
theorem i64_72 {xs : List Int32} : xtI (xTa xs) 64 72 = some (.ireturn, 1) := x_ins (j := 41) kk64 ia64 rfl
theorem kk65 : xK0.getD 65 [] = k65 := rfl
set_option maxRecDepth 100000 in
theorem ia65 : (k65.all fun e => decide (k65.lookup e.1 = some e.2)) = true := by decide +kernel
theorem i65_0 {xs : List Int32} : xtI (xTa xs) 65 0 = some (.aload_n 0, 1) := x_ins (j := 0) kk65 ia65 rfl
theorem i65_1 {xs : List Int32} : xtI (xTa xs) 65 1 = some (.getfield 30, 3) := x_ins (j := 1) kk65 ia65 rfl
theorem i65_4 {xs : List Int32} : xtI (xTa xs) 65 4 = some (.ifnull 20, 3) := x_ins (j := 2) kk65 ia65 rfl
theorem i65_7 {xs : List Int32} : xtI (xTa xs) 65 7 = some (.aload_n 0, 1) := x_ins (j := 3) kk65 ia65 rfl
theorem i65_8 {xs : List Int32} : xtI (xTa xs) 65 8 = some (.getfield 30, 3) := x_ins (j := 4) kk65 ia65 rfl
theorem i65_11 {xs : List Int32} : xtI (xTa xs) 65 11 = some (.getfield 84, 3) := x_ins (j := 5) kk65 ia65 rfl
theorem i65_14 {xs : List Int32} : xtI (xTa xs) 65 14 = some (.invokestatic 89, 3) := x_ins (j := 6) kk65 ia65 rfl
theorem i65_17 {xs : List Int32} : xtI (xTa xs) 65 17 = some (.ifCond .eq 7, 3) := x_ins (j := 7) kk65 ia65 rfl
theorem i65_20 {xs : List Int32} : xtI (xTa xs) 65 20 = some (.iconst 1, 1) := x_ins (j := 8) kk65 ia65 rfl
theorem i65_21 {xs : List Int32} : xtI (xTa xs) 65 21 = some (.goto 4, 3) := x_ins (j := 9) kk65 ia65 rfl
theorem i65_24 {xs : List Int32} : xtI (xTa xs) 65 24 = some (.iconst 0, 1) := x_ins (j := 10) kk65 ia65 rfl
theorem i65_25 {xs : List Int32} : xtI (xTa xs) 65 25 = some (.ireturn, 1) := x_ins (j := 11) kk65 ia65 rfl
theorem kk66 : xK0.getD 66 [] = k66 := rfl
set_option maxRecDepth 100000 in
theorem ia66 : (k66.all fun e => decide (k66.lookup e.1 = some e.2)) = true := by decide +kernel
theorem i66_0 {xs : List Int32} : xtI (xTa xs) 66 0 = some (.aload_n 0, 1) := x_ins (j := 0) kk66 ia66 rfl
theorem i66_1 {xs : List Int32} : xtI (xTa xs) 66 1 = some (.aload_n 0, 1) := x_ins (j := 1) kk66 ia66 rfl
theorem i66_2 {xs : List Int32} : xtI (xTa xs) 66 2 = some (.getfield 20, 3) := x_ins (j := 2) kk66 ia66 rfl
theorem i66_5 {xs : List Int32} : xtI (xTa xs) 66 5 = some (.iload_n 1, 1) := x_ins (j := 3) kk66 ia66 rfl
theorem i66_6 {xs : List Int32} : xtI (xTa xs) 66 6 = some (.iload_n 2, 1) := x_ins (j := 4) kk66 ia66 rfl
theorem i66_7 {xs : List Int32} : xtI (xTa xs) 66 7 = some (.invokevirtual 93, 3) := x_ins (j := 5) kk66 ia66 rfl
theorem i66_10 {xs : List Int32} : xtI (xTa xs) 66 10 = some (.putfield 30, 3) := x_ins (j := 6) kk66 ia66 rfl
theorem i66_13 {xs : List Int32} : xtI (xTa xs) 66 13 = some (.aload_n 0, 1) := x_ins (j := 7) kk66 ia66 rfl
theorem i66_14 {xs : List Int32} : xtI (xTa xs) 66 14 = some (.getfield 30, 3) := x_ins (j := 8) kk66 ia66 rfl
theorem i66_17 {xs : List Int32} : xtI (xTa xs) 66 17 = some (.ifnull 15, 3) := x_ins (j := 9) kk66 ia66 rfl
theorem i66_20 {xs : List Int32} : xtI (xTa xs) 66 20 = some (.aload_n 0, 1) := x_ins (j := 10) kk66 ia66 rfl
theorem i66_21 {xs : List Int32} : xtI (xTa xs) 66 21 = some (.getfield 20, 3) := x_ins (j := 11) kk66 ia66 rfl
theorem i66_24 {xs : List Int32} : xtI (xTa xs) 66 24 = some (.getfield 97, 3) := x_ins (j := 12) kk66 ia66 rfl
theorem i66_27 {xs : List Int32} : xtI (xTa xs) 66 27 = some (.bipush 24, 2) := x_ins (j := 13) kk66 ia66 rfl
theorem i66_29 {xs : List Int32} : xtI (xTa xs) 66 29 = some (.if_icmp .le 9, 3) := x_ins (j := 14) kk66 ia66 rfl
theorem i66_32 {xs : List Int32} : xtI (xTa xs) 66 32 = some (.aload_n 0, 1) := x_ins (j := 15) kk66 ia66 rfl
theorem i66_33 {xs : List Int32} : xtI (xTa xs) 66 33 = some (.iload_n 2, 1) := x_ins (j := 16) kk66 ia66 rfl
theorem i66_34 {xs : List Int32} : xtI (xTa xs) 66 34 = some (.iconst 4, 1) := x_ins (j := 17) kk66 ia66 rfl
theorem i66_35 {xs : List Int32} : xtI (xTa xs) 66 35 = some (.invokevirtual 81, 3) := x_ins (j := 18) kk66 ia66 rfl
theorem i66_38 {xs : List Int32} : xtI (xTa xs) 66 38 = some (.return_, 1) := x_ins (j := 19) kk66 ia66 rfl
theorem kk67 : xK0.getD 67 [] = k67 := rfl
set_option maxRecDepth 100000 in
theorem ia67 : (k67.all fun e => decide (k67.lookup e.1 = some e.2)) = true := by decide +kernel
theorem i67_0 {xs : List Int32} : xtI (xTa xs) 67 0 = some (.aload_n 0, 1) := x_ins (j := 0) kk67 ia67 rfl
theorem i67_1 {xs : List Int32} : xtI (xTa xs) 67 1 = some (.getfield 30, 3) := x_ins (j := 1) kk67 ia67 rfl
theorem i67_4 {xs : List Int32} : xtI (xTa xs) 67 4 = some (.ifnull 25, 3) := x_ins (j := 2) kk67 ia67 rfl
theorem i67_7 {xs : List Int32} : xtI (xTa xs) 67 7 = some (.aload_n 0, 1) := x_ins (j := 3) kk67 ia67 rfl
theorem i67_8 {xs : List Int32} : xtI (xTa xs) 67 8 = some (.getfield 30, 3) := x_ins (j := 4) kk67 ia67 rfl
theorem i67_11 {xs : List Int32} : xtI (xTa xs) 67 11 = some (.getfield 84, 3) := x_ins (j := 5) kk67 ia67 rfl
theorem i67_14 {xs : List Int32} : xtI (xTa xs) 67 14 = some (.iconst 1, 1) := x_ins (j := 6) kk67 ia67 rfl
theorem i67_15 {xs : List Int32} : xtI (xTa xs) 67 15 = some (.if_icmp .ne 14, 3) := x_ins (j := 7) kk67 ia67 rfl
theorem i67_18 {xs : List Int32} : xtI (xTa xs) 67 18 = some (.aload_n 0, 1) := x_ins (j := 8) kk67 ia67 rfl
theorem i67_19 {xs : List Int32} : xtI (xTa xs) 67 19 = some (.getfield 34, 3) := x_ins (j := 9) kk67 ia67 rfl
theorem i67_22 {xs : List Int32} : xtI (xTa xs) 67 22 = some (.ifCond .ne 7, 3) := x_ins (j := 10) kk67 ia67 rfl
theorem i67_25 {xs : List Int32} : xtI (xTa xs) 67 25 = some (.iconst 1, 1) := x_ins (j := 11) kk67 ia67 rfl
theorem i67_26 {xs : List Int32} : xtI (xTa xs) 67 26 = some (.goto 4, 3) := x_ins (j := 12) kk67 ia67 rfl
theorem i67_29 {xs : List Int32} : xtI (xTa xs) 67 29 = some (.iconst 0, 1) := x_ins (j := 13) kk67 ia67 rfl
theorem i67_30 {xs : List Int32} : xtI (xTa xs) 67 30 = some (.istore 4, 2) := x_ins (j := 14) kk67 ia67 rfl
theorem i67_32 {xs : List Int32} : xtI (xTa xs) 67 32 = some (.iload 4, 2) := x_ins (j := 15) kk67 ia67 rfl
theorem i67_34 {xs : List Int32} : xtI (xTa xs) 67 34 = some (.ifCond .eq 19, 3) := x_ins (j := 16) kk67 ia67 rfl
theorem i67_37 {xs : List Int32} : xtI (xTa xs) 67 37 = some (.iconst 2, 1) := x_ins (j := 17) kk67 ia67 rfl
theorem i67_38 {xs : List Int32} : xtI (xTa xs) 67 38 = some (.aload_n 0, 1) := x_ins (j := 18) kk67 ia67 rfl
theorem i67_39 {xs : List Int32} : xtI (xTa xs) 67 39 = some (.getfield 30, 3) := x_ins (j := 19) kk67 ia67 rfl
theorem i67_42 {xs : List Int32} : xtI (xTa xs) 67 42 = some (.getfield 100, 3) := x_ins (j := 20) kk67 ia67 rfl
theorem i67_45 {xs : List Int32} : xtI (xTa xs) 67 45 = some (.iconst 1, 1) := x_ins (j := 21) kk67 ia67 rfl
theorem i67_46 {xs : List Int32} : xtI (xTa xs) 67 46 = some (.iadd, 1) := x_ins (j := 22) kk67 ia67 rfl
theorem i67_47 {xs : List Int32} : xtI (xTa xs) 67 47 = some (.invokestatic 103, 3) := x_ins (j := 23) kk67 ia67 rfl
theorem i67_50 {xs : List Int32} : xtI (xTa xs) 67 50 = some (.goto 4, 3) := x_ins (j := 24) kk67 ia67 rfl
theorem i67_53 {xs : List Int32} : xtI (xTa xs) 67 53 = some (.iconst 0, 1) := x_ins (j := 25) kk67 ia67 rfl
theorem i67_54 {xs : List Int32} : xtI (xTa xs) 67 54 = some (.istore 5, 2) := x_ins (j := 26) kk67 ia67 rfl
theorem i67_56 {xs : List Int32} : xtI (xTa xs) 67 56 = some (.aload_n 0, 1) := x_ins (j := 27) kk67 ia67 rfl
theorem i67_57 {xs : List Int32} : xtI (xTa xs) 67 57 = some (.invokevirtual 108, 3) := x_ins (j := 28) kk67 ia67 rfl
theorem i67_60 {xs : List Int32} : xtI (xTa xs) 67 60 = some (.ifCond .eq 9, 3) := x_ins (j := 29) kk67 ia67 rfl
theorem i67_63 {xs : List Int32} : xtI (xTa xs) 67 63 = some (.aload_n 0, 1) := x_ins (j := 30) kk67 ia67 rfl
theorem i67_64 {xs : List Int32} : xtI (xTa xs) 67 64 = some (.iload_n 1, 1) := x_ins (j := 31) kk67 ia67 rfl
theorem i67_65 {xs : List Int32} : xtI (xTa xs) 67 65 = some (.iconst 2, 1) := x_ins (j := 32) kk67 ia67 rfl
theorem i67_66 {xs : List Int32} : xtI (xTa xs) 67 66 = some (.invokevirtual 81, 3) := x_ins (j := 33) kk67 ia67 rfl
theorem i67_69 {xs : List Int32} : xtI (xTa xs) 67 69 = some (.iload_n 3, 1) := x_ins (j := 34) kk67 ia67 rfl
theorem i67_70 {xs : List Int32} : xtI (xTa xs) 67 70 = some (.iconst 1, 1) := x_ins (j := 35) kk67 ia67 rfl
theorem i67_71 {xs : List Int32} : xtI (xTa xs) 67 71 = some (.iand, 1) := x_ins (j := 36) kk67 ia67 rfl
theorem i67_72 {xs : List Int32} : xtI (xTa xs) 67 72 = some (.ifCond .ne 11, 3) := x_ins (j := 37) kk67 ia67 rfl
theorem i67_75 {xs : List Int32} : xtI (xTa xs) 67 75 = some (.iload_n 3, 1) := x_ins (j := 38) kk67 ia67 rfl
theorem i67_76 {xs : List Int32} : xtI (xTa xs) 67 76 = some (.iconst 2, 1) := x_ins (j := 39) kk67 ia67 rfl
theorem i67_77 {xs : List Int32} : xtI (xTa xs) 67 77 = some (.idiv, 1) := x_ins (j := 40) kk67 ia67 rfl
theorem i67_78 {xs : List Int32} : xtI (xTa xs) 67 78 = some (.iload 5, 2) := x_ins (j := 41) kk67 ia67 rfl
theorem i67_80 {xs : List Int32} : xtI (xTa xs) 67 80 = some (.if_icmp .le 9, 3) := x_ins (j := 42) kk67 ia67 rfl
theorem i67_83 {xs : List Int32} : xtI (xTa xs) 67 83 = some (.aload_n 0, 1) := x_ins (j := 43) kk67 ia67 rfl
theorem i67_84 {xs : List Int32} : xtI (xTa xs) 67 84 = some (.iload_n 1, 1) := x_ins (j := 44) kk67 ia67 rfl
theorem i67_85 {xs : List Int32} : xtI (xTa xs) 67 85 = some (.iconst 3, 1) := x_ins (j := 45) kk67 ia67 rfl
theorem i67_86 {xs : List Int32} : xtI (xTa xs) 67 86 = some (.invokevirtual 81, 3) := x_ins (j := 46) kk67 ia67 rfl
theorem i67_89 {xs : List Int32} : xtI (xTa xs) 67 89 = some (.aload_n 0, 1) := x_ins (j := 47) kk67 ia67 rfl
theorem i67_90 {xs : List Int32} : xtI (xTa xs) 67 90 = some (.iconst 1, 1) := x_ins (j := 48) kk67 ia67 rfl
theorem i67_91 {xs : List Int32} : xtI (xTa xs) 67 91 = some (.iload_n 1, 1) := x_ins (j := 49) kk67 ia67 rfl
theorem i67_92 {xs : List Int32} : xtI (xTa xs) 67 92 = some (.invokevirtual 112, 3) := x_ins (j := 50) kk67 ia67 rfl
theorem i67_95 {xs : List Int32} : xtI (xTa xs) 67 95 = some (.aload_n 0, 1) := x_ins (j := 51) kk67 ia67 rfl
theorem i67_96 {xs : List Int32} : xtI (xTa xs) 67 96 = some (.getfield 30, 3) := x_ins (j := 52) kk67 ia67 rfl
theorem i67_99 {xs : List Int32} : xtI (xTa xs) 67 99 = some (.ifnull 30, 3) := x_ins (j := 53) kk67 ia67 rfl
theorem i67_102 {xs : List Int32} : xtI (xTa xs) 67 102 = some (.aload_n 0, 1) := x_ins (j := 54) kk67 ia67 rfl
theorem i67_103 {xs : List Int32} : xtI (xTa xs) 67 103 = some (.getfield 30, 3) := x_ins (j := 55) kk67 ia67 rfl
theorem i67_106 {xs : List Int32} : xtI (xTa xs) 67 106 = some (.iload_n 3, 1) := x_ins (j := 56) kk67 ia67 rfl
theorem i67_107 {xs : List Int32} : xtI (xTa xs) 67 107 = some (.iconst 2, 1) := x_ins (j := 57) kk67 ia67 rfl
theorem i67_108 {xs : List Int32} : xtI (xTa xs) 67 108 = some (.idiv, 1) := x_ins (j := 58) kk67 ia67 rfl
theorem i67_109 {xs : List Int32} : xtI (xTa xs) 67 109 = some (.putfield 100, 3) := x_ins (j := 59) kk67 ia67 rfl
theorem i67_112 {xs : List Int32} : xtI (xTa xs) 67 112 = some (.aload_n 0, 1) := x_ins (j := 60) kk67 ia67 rfl
theorem i67_113 {xs : List Int32} : xtI (xTa xs) 67 113 = some (.getfield 30, 3) := x_ins (j := 61) kk67 ia67 rfl
theorem i67_116 {xs : List Int32} : xtI (xTa xs) 67 116 = some (.iload 4, 2) := x_ins (j := 62) kk67 ia67 rfl
theorem i67_118 {xs : List Int32} : xtI (xTa xs) 67 118 = some (.putfield 115, 3) := x_ins (j := 63) kk67 ia67 rfl
theorem i67_121 {xs : List Int32} : xtI (xTa xs) 67 121 = some (.aload_n 0, 1) := x_ins (j := 64) kk67 ia67 rfl
theorem i67_122 {xs : List Int32} : xtI (xTa xs) 67 122 = some (.iload_n 1, 1) := x_ins (j := 65) kk67 ia67 rfl
theorem i67_123 {xs : List Int32} : xtI (xTa xs) 67 123 = some (.iconst 1, 1) := x_ins (j := 66) kk67 ia67 rfl
theorem i67_124 {xs : List Int32} : xtI (xTa xs) 67 124 = some (.iadd, 1) := x_ins (j := 67) kk67 ia67 rfl
theorem i67_125 {xs : List Int32} : xtI (xTa xs) 67 125 = some (.iload_n 2, 1) := x_ins (j := 68) kk67 ia67 rfl
theorem i67_126 {xs : List Int32} : xtI (xTa xs) 67 126 = some (.invokevirtual 118, 3) := x_ins (j := 69) kk67 ia67 rfl
theorem i67_129 {xs : List Int32} : xtI (xTa xs) 67 129 = some (.return_, 1) := x_ins (j := 70) kk67 ia67 rfl
theorem kk68 : xK0.getD 68 [] = k68 := rfl
set_option maxRecDepth 100000 in
theorem ia68 : (k68.all fun e => decide (k68.lookup e.1 = some e.2)) = true := by decide +kernel
theorem i68_0 {xs : List Int32} : xtI (xTa xs) 68 0 = some (.aload_n 0, 1) := x_ins (j := 0) kk68 ia68 rfl
theorem i68_1 {xs : List Int32} : xtI (xTa xs) 68 1 = some (.getfield 34, 3) := x_ins (j := 1) kk68 ia68 rfl
theorem i68_4 {xs : List Int32} : xtI (xTa xs) 68 4 = some (.ifCond .eq 10, 3) := x_ins (j := 2) kk68 ia68 rfl
theorem i68_7 {xs : List Int32} : xtI (xTa xs) 68 7 = some (.aload_n 0, 1) := x_ins (j := 3) kk68 ia68 rfl
theorem i68_8 {xs : List Int32} : xtI (xTa xs) 68 8 = some (.invokevirtual 108, 3) := x_ins (j := 4) kk68 ia68 rfl
theorem i68_11 {xs : List Int32} : xtI (xTa xs) 68 11 = some (.goto 25, 3) := x_ins (j := 5) kk68 ia68 rfl
theorem i68_14 {xs : List Int32} : xtI (xTa xs) 68 14 = some (.aload_n 0, 1) := x_ins (j := 6) kk68 ia68 rfl
theorem i68_15 {xs : List Int32} : xtI (xTa xs) 68 15 = some (.getfield 30, 3) := x_ins (j := 7) kk68 ia68 rfl
theorem i68_18 {xs : List Int32} : xtI (xTa xs) 68 18 = some (.ifnull 17, 3) := x_ins (j := 8) kk68 ia68 rfl
theorem i68_21 {xs : List Int32} : xtI (xTa xs) 68 21 = some (.aload_n 0, 1) := x_ins (j := 9) kk68 ia68 rfl
theorem i68_22 {xs : List Int32} : xtI (xTa xs) 68 22 = some (.getfield 30, 3) := x_ins (j := 10) kk68 ia68 rfl
theorem i68_25 {xs : List Int32} : xtI (xTa xs) 68 25 = some (.invokevirtual 121, 3) := x_ins (j := 11) kk68 ia68 rfl
theorem i68_28 {xs : List Int32} : xtI (xTa xs) 68 28 = some (.ifCond .eq 7, 3) := x_ins (j := 12) kk68 ia68 rfl
theorem i68_31 {xs : List Int32} : xtI (xTa xs) 68 31 = some (.iconst 1, 1) := x_ins (j := 13) kk68 ia68 rfl
theorem i68_32 {xs : List Int32} : xtI (xTa xs) 68 32 = some (.goto 4, 3) := x_ins (j := 14) kk68 ia68 rfl
theorem i68_35 {xs : List Int32} : xtI (xTa xs) 68 35 = some (.iconst 0, 1) := x_ins (j := 15) kk68 ia68 rfl
theorem i68_36 {xs : List Int32} : xtI (xTa xs) 68 36 = some (.istore_n 3, 1) := x_ins (j := 16) kk68 ia68 rfl
theorem i68_37 {xs : List Int32} : xtI (xTa xs) 68 37 = some (.iload_n 3, 1) := x_ins (j := 17) kk68 ia68 rfl
theorem i68_38 {xs : List Int32} : xtI (xTa xs) 68 38 = some (.ifCond .eq 10, 3) := x_ins (j := 18) kk68 ia68 rfl
theorem i68_41 {xs : List Int32} : xtI (xTa xs) 68 41 = some (.aload_n 0, 1) := x_ins (j := 19) kk68 ia68 rfl
theorem i68_42 {xs : List Int32} : xtI (xTa xs) 68 42 = some (.iload_n 1, 1) := x_ins (j := 20) kk68 ia68 rfl
theorem i68_43 {xs : List Int32} : xtI (xTa xs) 68 43 = some (.iconst 2, 1) := x_ins (j := 21) kk68 ia68 rfl
theorem i68_44 {xs : List Int32} : xtI (xTa xs) 68 44 = some (.invokevirtual 81, 3) := x_ins (j := 22) kk68 ia68 rfl
theorem i68_47 {xs : List Int32} : xtI (xTa xs) 68 47 = some (.return_, 1) := x_ins (j := 23) kk68 ia68 rfl
theorem i68_48 {xs : List Int32} : xtI (xTa xs) 68 48 = some (.aload_n 0, 1) := x_ins (j := 24) kk68 ia68 rfl
theorem i68_49 {xs : List Int32} : xtI (xTa xs) 68 49 = some (.getfield 34, 3) := x_ins (j := 25) kk68 ia68 rfl
theorem i68_52 {xs : List Int32} : xtI (xTa xs) 68 52 = some (.ifCond .eq 16, 3) := x_ins (j := 26) kk68 ia68 rfl
theorem i68_55 {xs : List Int32} : xtI (xTa xs) 68 55 = some (.aload_n 0, 1) := x_ins (j := 27) kk68 ia68 rfl
theorem i68_56 {xs : List Int32} : xtI (xTa xs) 68 56 = some (.iload_n 1, 1) := x_ins (j := 28) kk68 ia68 rfl
theorem i68_57 {xs : List Int32} : xtI (xTa xs) 68 57 = some (.iload_n 2, 1) := x_ins (j := 29) kk68 ia68 rfl
theorem i68_58 {xs : List Int32} : xtI (xTa xs) 68 58 = some (.invokevirtual 124, 3) := x_ins (j := 30) kk68 ia68 rfl
theorem i68_61 {xs : List Int32} : xtI (xTa xs) 68 61 = some (.ifCond .eq 7, 3) := x_ins (j := 31) kk68 ia68 rfl
theorem i68_64 {xs : List Int32} : xtI (xTa xs) 68 64 = some (.iconst 1, 1) := x_ins (j := 32) kk68 ia68 rfl
theorem i68_65 {xs : List Int32} : xtI (xTa xs) 68 65 = some (.goto 4, 3) := x_ins (j := 33) kk68 ia68 rfl
theorem i68_68 {xs : List Int32} : xtI (xTa xs) 68 68 = some (.iconst 0, 1) := x_ins (j := 34) kk68 ia68 rfl
theorem i68_69 {xs : List Int32} : xtI (xTa xs) 68 69 = some (.istore 4, 2) := x_ins (j := 35) kk68 ia68 rfl
theorem i68_71 {xs : List Int32} : xtI (xTa xs) 68 71 = some (.iload 4, 2) := x_ins (j := 36) kk68 ia68 rfl
theorem i68_73 {xs : List Int32} : xtI (xTa xs) 68 73 = some (.ifCond .eq 21, 3) := x_ins (j := 37) kk68 ia68 rfl
theorem i68_76 {xs : List Int32} : xtI (xTa xs) 68 76 = some (.aload_n 0, 1) := x_ins (j := 38) kk68 ia68 rfl
theorem i68_77 {xs : List Int32} : xtI (xTa xs) 68 77 = some (.getfield 20, 3) := x_ins (j := 39) kk68 ia68 rfl
theorem i68_80 {xs : List Int32} : xtI (xTa xs) 68 80 = some (.bipush 7, 2) := x_ins (j := 40) kk68 ia68 rfl
theorem i68_82 {xs : List Int32} : xtI (xTa xs) 68 82 = some (.invokevirtual 128, 3) := x_ins (j := 41) kk68 ia68 rfl
theorem i68_85 {xs : List Int32} : xtI (xTa xs) 68 85 = some (.ifnull 9, 3) := x_ins (j := 42) kk68 ia68 rfl
theorem i68_88 {xs : List Int32} : xtI (xTa xs) 68 88 = some (.aload_n 0, 1) := x_ins (j := 43) kk68 ia68 rfl
theorem i68_89 {xs : List Int32} : xtI (xTa xs) 68 89 = some (.iload_n 1, 1) := x_ins (j := 44) kk68 ia68 rfl
theorem i68_90 {xs : List Int32} : xtI (xTa xs) 68 90 = some (.iconst 5, 1) := x_ins (j := 45) kk68 ia68 rfl
theorem i68_91 {xs : List Int32} : xtI (xTa xs) 68 91 = some (.invokevirtual 81, 3) := x_ins (j := 46) kk68 ia68 rfl
theorem i68_94 {xs : List Int32} : xtI (xTa xs) 68 94 = some (.aload_n 0, 1) := x_ins (j := 47) kk68 ia68 rfl
theorem i68_95 {xs : List Int32} : xtI (xTa xs) 68 95 = some (.getfield 34, 3) := x_ins (j := 48) kk68 ia68 rfl
theorem i68_98 {xs : List Int32} : xtI (xTa xs) 68 98 = some (.ifCond .eq 19, 3) := x_ins (j := 49) kk68 ia68 rfl
theorem i68_101 {xs : List Int32} : xtI (xTa xs) 68 101 = some (.aload_n 0, 1) := x_ins (j := 50) kk68 ia68 rfl
theorem i68_102 {xs : List Int32} : xtI (xTa xs) 68 102 = some (.iload 4, 2) := x_ins (j := 51) kk68 ia68 rfl
theorem i68_104 {xs : List Int32} : xtI (xTa xs) 68 104 = some (.ifCond .eq 8, 3) := x_ins (j := 52) kk68 ia68 rfl
theorem i68_107 {xs : List Int32} : xtI (xTa xs) 68 107 = some (.bipush 7, 2) := x_ins (j := 53) kk68 ia68 rfl
theorem i68_109 {xs : List Int32} : xtI (xTa xs) 68 109 = some (.goto 4, 3) := x_ins (j := 54) kk68 ia68 rfl
theorem i68_112 {xs : List Int32} : xtI (xTa xs) 68 112 = some (.iconst 0, 1) := x_ins (j := 55) kk68 ia68 rfl
theorem i68_113 {xs : List Int32} : xtI (xTa xs) 68 113 = some (.iload_n 1, 1) := x_ins (j := 56) kk68 ia68 rfl
theorem i68_114 {xs : List Int32} : xtI (xTa xs) 68 114 = some (.invokevirtual 112, 3) := x_ins (j := 57) kk68 ia68 rfl
theorem i68_117 {xs : List Int32} : xtI (xTa xs) 68 117 = some (.iload 4, 2) := x_ins (j := 58) kk68 ia68 rfl
theorem i68_119 {xs : List Int32} : xtI (xTa xs) 68 119 = some (.ifCond .ne 9, 3) := x_ins (j := 59) kk68 ia68 rfl
theorem i68_122 {xs : List Int32} : xtI (xTa xs) 68 122 = some (.aload_n 0, 1) := x_ins (j := 60) kk68 ia68 rfl
theorem i68_123 {xs : List Int32} : xtI (xTa xs) 68 123 = some (.iload_n 1, 1) := x_ins (j := 61) kk68 ia68 rfl
theorem i68_124 {xs : List Int32} : xtI (xTa xs) 68 124 = some (.iload_n 2, 1) := x_ins (j := 62) kk68 ia68 rfl
theorem i68_125 {xs : List Int32} : xtI (xTa xs) 68 125 = some (.invokevirtual 118, 3) := x_ins (j := 63) kk68 ia68 rfl
theorem i68_128 {xs : List Int32} : xtI (xTa xs) 68 128 = some (.return_, 1) := x_ins (j := 64) kk68 ia68 rfl
theorem kk69 : xK0.getD 69 [] = k69 := rfl
set_option maxRecDepth 100000 in
theorem ia69 : (k69.all fun e => decide (k69.lookup e.1 = some e.2)) = true := by decide +kernel
theorem i69_0 {xs : List Int32} : xtI (xTa xs) 69 0 = some (.aload_n 0, 1) := x_ins (j := 0) kk69 ia69 rfl
theorem i69_1 {xs : List Int32} : xtI (xTa xs) 69 1 = some (.getfield 29, 3) := x_ins (j := 1) kk69 ia69 rfl
theorem i69_4 {xs : List Int32} : xtI (xTa xs) 69 4 = some (.iload_n 1, 1) := x_ins (j := 2) kk69 ia69 rfl
theorem i69_5 {xs : List Int32} : xtI (xTa xs) 69 5 = some (.ldc 132, 2) := x_ins (j := 3) kk69 ia69 rfl
theorem i69_7 {xs : List Int32} : xtI (xTa xs) 69 7 = some (.invokevirtual 134, 3) := x_ins (j := 4) kk69 ia69 rfl
theorem i69_10 {xs : List Int32} : xtI (xTa xs) 69 10 = some (.ifCond .eq 26, 3) := x_ins (j := 5) kk69 ia69 rfl
theorem i69_13 {xs : List Int32} : xtI (xTa xs) 69 13 = some (.aload_n 0, 1) := x_ins (j := 6) kk69 ia69 rfl
theorem i69_14 {xs : List Int32} : xtI (xTa xs) 69 14 = some (.getfield 20, 3) := x_ins (j := 7) kk69 ia69 rfl
theorem i69_17 {xs : List Int32} : xtI (xTa xs) 69 17 = some (.getfield 138, 3) := x_ins (j := 8) kk69 ia69 rfl
theorem i69_20 {xs : List Int32} : xtI (xTa xs) 69 20 = some (.ifnull 16, 3) := x_ins (j := 9) kk69 ia69 rfl
theorem i69_23 {xs : List Int32} : xtI (xTa xs) 69 23 = some (.aload_n 0, 1) := x_ins (j := 10) kk69 ia69 rfl
theorem i69_24 {xs : List Int32} : xtI (xTa xs) 69 24 = some (.getfield 20, 3) := x_ins (j := 11) kk69 ia69 rfl
theorem i69_27 {xs : List Int32} : xtI (xTa xs) 69 27 = some (.getfield 138, 3) := x_ins (j := 12) kk69 ia69 rfl
theorem i69_30 {xs : List Int32} : xtI (xTa xs) 69 30 = some (.invokevirtual 142, 3) := x_ins (j := 13) kk69 ia69 rfl
theorem i69_33 {xs : List Int32} : xtI (xTa xs) 69 33 = some (.ifCond .eq 5, 3) := x_ins (j := 14) kk69 ia69 rfl
theorem i69_36 {xs : List Int32} : xtI (xTa xs) 69 36 = some (.iconst 0, 1) := x_ins (j := 15) kk69 ia69 rfl
theorem i69_37 {xs : List Int32} : xtI (xTa xs) 69 37 = some (.ireturn, 1) := x_ins (j := 16) kk69 ia69 rfl
theorem i69_38 {xs : List Int32} : xtI (xTa xs) 69 38 = some (.aload_n 0, 1) := x_ins (j := 17) kk69 ia69 rfl
theorem i69_39 {xs : List Int32} : xtI (xTa xs) 69 39 = some (.getfield 29, 3) := x_ins (j := 18) kk69 ia69 rfl
theorem i69_42 {xs : List Int32} : xtI (xTa xs) 69 42 = some (.iload_n 1, 1) := x_ins (j := 19) kk69 ia69 rfl
theorem i69_43 {xs : List Int32} : xtI (xTa xs) 69 43 = some (.ldc 132, 2) := x_ins (j := 20) kk69 ia69 rfl
theorem i69_45 {xs : List Int32} : xtI (xTa xs) 69 45 = some (.invokevirtual 147, 3) := x_ins (j := 21) kk69 ia69 rfl
theorem i69_48 {xs : List Int32} : xtI (xTa xs) 69 48 = some (.iadd, 1) := x_ins (j := 22) kk69 ia69 rfl
theorem i69_49 {xs : List Int32} : xtI (xTa xs) 69 49 = some (.iload_n 2, 1) := x_ins (j := 23) kk69 ia69 rfl
theorem i69_50 {xs : List Int32} : xtI (xTa xs) 69 50 = some (.invokevirtual 55, 3) := x_ins (j := 24) kk69 ia69 rfl
theorem i69_53 {xs : List Int32} : xtI (xTa xs) 69 53 = some (.iload_n 2, 1) := x_ins (j := 25) kk69 ia69 rfl
theorem i69_54 {xs : List Int32} : xtI (xTa xs) 69 54 = some (.if_icmp .ge 5, 3) := x_ins (j := 26) kk69 ia69 rfl
theorem i69_57 {xs : List Int32} : xtI (xTa xs) 69 57 = some (.iconst 0, 1) := x_ins (j := 27) kk69 ia69 rfl
theorem i69_58 {xs : List Int32} : xtI (xTa xs) 69 58 = some (.ireturn, 1) := x_ins (j := 28) kk69 ia69 rfl
theorem i69_59 {xs : List Int32} : xtI (xTa xs) 69 59 = some (.aload_n 0, 1) := x_ins (j := 29) kk69 ia69 rfl
theorem i69_60 {xs : List Int32} : xtI (xTa xs) 69 60 = some (.getfield 29, 3) := x_ins (j := 30) kk69 ia69 rfl
theorem i69_63 {xs : List Int32} : xtI (xTa xs) 69 63 = some (.bipush 10, 2) := x_ins (j := 31) kk69 ia69 rfl
theorem i69_65 {xs : List Int32} : xtI (xTa xs) 69 65 = some (.iload_n 2, 1) := x_ins (j := 32) kk69 ia69 rfl
theorem i69_66 {xs : List Int32} : xtI (xTa xs) 69 66 = some (.iconst 1, 1) := x_ins (j := 33) kk69 ia69 rfl
theorem i69_67 {xs : List Int32} : xtI (xTa xs) 69 67 = some (.iadd, 1) := x_ins (j := 34) kk69 ia69 rfl
theorem i69_68 {xs : List Int32} : xtI (xTa xs) 69 68 = some (.aload_n 0, 1) := x_ins (j := 35) kk69 ia69 rfl
theorem i69_69 {xs : List Int32} : xtI (xTa xs) 69 69 = some (.getfield 29, 3) := x_ins (j := 36) kk69 ia69 rfl
theorem i69_72 {xs : List Int32} : xtI (xTa xs) 69 72 = some (.getfield 48, 3) := x_ins (j := 37) kk69 ia69 rfl
theorem i69_75 {xs : List Int32} : xtI (xTa xs) 69 75 = some (.invokevirtual 51, 3) := x_ins (j := 38) kk69 ia69 rfl
theorem i69_78 {xs : List Int32} : xtI (xTa xs) 69 78 = some (.istore_n 3, 1) := x_ins (j := 39) kk69 ia69 rfl
theorem i69_79 {xs : List Int32} : xtI (xTa xs) 69 79 = some (.aload_n 0, 1) := x_ins (j := 40) kk69 ia69 rfl
theorem i69_80 {xs : List Int32} : xtI (xTa xs) 69 80 = some (.getfield 29, 3) := x_ins (j := 41) kk69 ia69 rfl
theorem i69_83 {xs : List Int32} : xtI (xTa xs) 69 83 = some (.iload_n 2, 1) := x_ins (j := 42) kk69 ia69 rfl
theorem i69_84 {xs : List Int32} : xtI (xTa xs) 69 84 = some (.iconst 1, 1) := x_ins (j := 43) kk69 ia69 rfl
theorem i69_85 {xs : List Int32} : xtI (xTa xs) 69 85 = some (.iadd, 1) := x_ins (j := 44) kk69 ia69 rfl
theorem i69_86 {xs : List Int32} : xtI (xTa xs) 69 86 = some (.iload_n 3, 1) := x_ins (j := 45) kk69 ia69 rfl
theorem i69_87 {xs : List Int32} : xtI (xTa xs) 69 87 = some (.invokevirtual 55, 3) := x_ins (j := 46) kk69 ia69 rfl
theorem i69_90 {xs : List Int32} : xtI (xTa xs) 69 90 = some (.istore 4, 2) := x_ins (j := 47) kk69 ia69 rfl
theorem i69_92 {xs : List Int32} : xtI (xTa xs) 69 92 = some (.aload_n 0, 1) := x_ins (j := 48) kk69 ia69 rfl
theorem i69_93 {xs : List Int32} : xtI (xTa xs) 69 93 = some (.iload 4, 2) := x_ins (j := 49) kk69 ia69 rfl
theorem i69_95 {xs : List Int32} : xtI (xTa xs) 69 95 = some (.iload_n 3, 1) := x_ins (j := 50) kk69 ia69 rfl
theorem i69_96 {xs : List Int32} : xtI (xTa xs) 69 96 = some (.invokevirtual 59, 3) := x_ins (j := 51) kk69 ia69 rfl
theorem i69_99 {xs : List Int32} : xtI (xTa xs) 69 99 = some (.iconst 3, 1) := x_ins (j := 52) kk69 ia69 rfl
theorem i69_100 {xs : List Int32} : xtI (xTa xs) 69 100 = some (.if_icmp .eq 7, 3) := x_ins (j := 53) kk69 ia69 rfl
theorem i69_103 {xs : List Int32} : xtI (xTa xs) 69 103 = some (.iconst 1, 1) := x_ins (j := 54) kk69 ia69 rfl
theorem i69_104 {xs : List Int32} : xtI (xTa xs) 69 104 = some (.goto 4, 3) := x_ins (j := 55) kk69 ia69 rfl
theorem i69_107 {xs : List Int32} : xtI (xTa xs) 69 107 = some (.iconst 0, 1) := x_ins (j := 56) kk69 ia69 rfl
theorem i69_108 {xs : List Int32} : xtI (xTa xs) 69 108 = some (.ireturn, 1) := x_ins (j := 57) kk69 ia69 rfl
theorem kk70 : xK0.getD 70 [] = k70 := rfl
set_option maxRecDepth 100000 in
theorem ia70 : (k70.all fun e => decide (k70.lookup e.1 = some e.2)) = true := by decide +kernel
theorem i70_0 {xs : List Int32} : xtI (xTa xs) 70 0 = some (.iconst 2, 1) := x_ins (j := 0) kk70 ia70 rfl
theorem i70_1 {xs : List Int32} : xtI (xTa xs) 70 1 = some (.istore_n 3, 1) := x_ins (j := 1) kk70 ia70 rfl
theorem i70_2 {xs : List Int32} : xtI (xTa xs) 70 2 = some (.iload_n 3, 1) := x_ins (j := 2) kk70 ia70 rfl
theorem i70_3 {xs : List Int32} : xtI (xTa xs) 70 3 = some (.bipush 6, 2) := x_ins (j := 3) kk70 ia70 rfl
theorem i70_5 {xs : List Int32} : xtI (xTa xs) 70 5 = some (.if_icmp .gt 41, 3) := x_ins (j := 4) kk70 ia70 rfl
theorem i70_8 {xs : List Int32} : xtI (xTa xs) 70 8 = some (.iload_n 3, 1) := x_ins (j := 5) kk70 ia70 rfl
theorem i70_9 {xs : List Int32} : xtI (xTa xs) 70 9 = some (.invokestatic 153, 3) := x_ins (j := 6) kk70 ia70 rfl
theorem i70_12 {xs : List Int32} : xtI (xTa xs) 70 12 = some (.astore 4, 2) := x_ins (j := 7) kk70 ia70 rfl
theorem i70_14 {xs : List Int32} : xtI (xTa xs) 70 14 = some (.aload 4, 2) := x_ins (j := 8) kk70 ia70 rfl
theorem i70_16 {xs : List Int32} : xtI (xTa xs) 70 16 = some (.invokevirtual 147, 3) := x_ins (j := 9) kk70 ia70 rfl
theorem i70_19 {xs : List Int32} : xtI (xTa xs) 70 19 = some (.iload_n 2, 1) := x_ins (j := 10) kk70 ia70 rfl
theorem i70_20 {xs : List Int32} : xtI (xTa xs) 70 20 = some (.iload_n 1, 1) := x_ins (j := 11) kk70 ia70 rfl
theorem i70_21 {xs : List Int32} : xtI (xTa xs) 70 21 = some (.isub, 1) := x_ins (j := 12) kk70 ia70 rfl
theorem i70_22 {xs : List Int32} : xtI (xTa xs) 70 22 = some (.if_icmp .ne 18, 3) := x_ins (j := 13) kk70 ia70 rfl
theorem i70_25 {xs : List Int32} : xtI (xTa xs) 70 25 = some (.aload_n 0, 1) := x_ins (j := 14) kk70 ia70 rfl
theorem i70_26 {xs : List Int32} : xtI (xTa xs) 70 26 = some (.getfield 29, 3) := x_ins (j := 15) kk70 ia70 rfl
theorem i70_29 {xs : List Int32} : xtI (xTa xs) 70 29 = some (.iload_n 1, 1) := x_ins (j := 16) kk70 ia70 rfl
theorem i70_30 {xs : List Int32} : xtI (xTa xs) 70 30 = some (.aload 4, 2) := x_ins (j := 17) kk70 ia70 rfl
theorem i70_32 {xs : List Int32} : xtI (xTa xs) 70 32 = some (.invokevirtual 134, 3) := x_ins (j := 18) kk70 ia70 rfl
theorem i70_35 {xs : List Int32} : xtI (xTa xs) 70 35 = some (.ifCond .eq 5, 3) := x_ins (j := 19) kk70 ia70 rfl
theorem i70_38 {xs : List Int32} : xtI (xTa xs) 70 38 = some (.iload_n 3, 1) := x_ins (j := 20) kk70 ia70 rfl
theorem i70_39 {xs : List Int32} : xtI (xTa xs) 70 39 = some (.ireturn, 1) := x_ins (j := 21) kk70 ia70 rfl
theorem i70_40 {xs : List Int32} : xtI (xTa xs) 70 40 = some (.iinc 3 1, 3) := x_ins (j := 22) kk70 ia70 rfl
theorem i70_43 {xs : List Int32} : xtI (xTa xs) 70 43 = some (.goto (-41), 3) := x_ins (j := 23) kk70 ia70 rfl
theorem i70_46 {xs : List Int32} : xtI (xTa xs) 70 46 = some (.iconst (-1), 1) := x_ins (j := 24) kk70 ia70 rfl
theorem i70_47 {xs : List Int32} : xtI (xTa xs) 70 47 = some (.ireturn, 1) := x_ins (j := 25) kk70 ia70 rfl
theorem kk71 : xK0.getD 71 [] = k71 := rfl
set_option maxRecDepth 100000 in
theorem ia71 : (k71.all fun e => decide (k71.lookup e.1 = some e.2)) = true := by decide +kernel
theorem i71_0 {xs : List Int32} : xtI (xTa xs) 71 0 = some (.aload_n 0, 1) := x_ins (j := 0) kk71 ia71 rfl
theorem i71_1 {xs : List Int32} : xtI (xTa xs) 71 1 = some (.getfield 29, 3) := x_ins (j := 1) kk71 ia71 rfl
theorem i71_4 {xs : List Int32} : xtI (xTa xs) 71 4 = some (.bipush 32, 2) := x_ins (j := 2) kk71 ia71 rfl
theorem i71_6 {xs : List Int32} : xtI (xTa xs) 71 6 = some (.iload_n 1, 1) := x_ins (j := 3) kk71 ia71 rfl
theorem i71_7 {xs : List Int32} : xtI (xTa xs) 71 7 = some (.iconst 1, 1) := x_ins (j := 4) kk71 ia71 rfl
theorem i71_8 {xs : List Int32} : xtI (xTa xs) 71 8 = some (.iadd, 1) := x_ins (j := 5) kk71 ia71 rfl
theorem i71_9 {xs : List Int32} : xtI (xTa xs) 71 9 = some (.iload_n 2, 1) := x_ins (j := 6) kk71 ia71 rfl
theorem i71_10 {xs : List Int32} : xtI (xTa xs) 71 10 = some (.invokevirtual 51, 3) := x_ins (j := 7) kk71 ia71 rfl
theorem i71_13 {xs : List Int32} : xtI (xTa xs) 71 13 = some (.istore_n 3, 1) := x_ins (j := 8) kk71 ia71 rfl
theorem i71_14 {xs : List Int32} : xtI (xTa xs) 71 14 = some (.aload_n 0, 1) := x_ins (j := 9) kk71 ia71 rfl
theorem i71_15 {xs : List Int32} : xtI (xTa xs) 71 15 = some (.iload_n 1, 1) := x_ins (j := 10) kk71 ia71 rfl
theorem i71_16 {xs : List Int32} : xtI (xTa xs) 71 16 = some (.iconst 1, 1) := x_ins (j := 11) kk71 ia71 rfl
theorem i71_17 {xs : List Int32} : xtI (xTa xs) 71 17 = some (.iadd, 1) := x_ins (j := 12) kk71 ia71 rfl
theorem i71_18 {xs : List Int32} : xtI (xTa xs) 71 18 = some (.iload_n 3, 1) := x_ins (j := 13) kk71 ia71 rfl
theorem i71_19 {xs : List Int32} : xtI (xTa xs) 71 19 = some (.invokevirtual 157, 3) := x_ins (j := 14) kk71 ia71 rfl
theorem i71_22 {xs : List Int32} : xtI (xTa xs) 71 22 = some (.istore 4, 2) := x_ins (j := 15) kk71 ia71 rfl
theorem i71_24 {xs : List Int32} : xtI (xTa xs) 71 24 = some (.iload 4, 2) := x_ins (j := 16) kk71 ia71 rfl
theorem i71_26 {xs : List Int32} : xtI (xTa xs) 71 26 = some (.iconst (-1), 1) := x_ins (j := 17) kk71 ia71 rfl
theorem i71_27 {xs : List Int32} : xtI (xTa xs) 71 27 = some (.if_icmp .ne 10, 3) := x_ins (j := 18) kk71 ia71 rfl
theorem i71_30 {xs : List Int32} : xtI (xTa xs) 71 30 = some (.aload_n 0, 1) := x_ins (j := 19) kk71 ia71 rfl
theorem i71_31 {xs : List Int32} : xtI (xTa xs) 71 31 = some (.iload_n 1, 1) := x_ins (j := 20) kk71 ia71 rfl
theorem i71_32 {xs : List Int32} : xtI (xTa xs) 71 32 = some (.iconst 2, 1) := x_ins (j := 21) kk71 ia71 rfl
theorem i71_33 {xs : List Int32} : xtI (xTa xs) 71 33 = some (.invokevirtual 81, 3) := x_ins (j := 22) kk71 ia71 rfl
theorem i71_36 {xs : List Int32} : xtI (xTa xs) 71 36 = some (.return_, 1) := x_ins (j := 23) kk71 ia71 rfl
theorem i71_37 {xs : List Int32} : xtI (xTa xs) 71 37 = some (.iload 4, 2) := x_ins (j := 24) kk71 ia71 rfl
theorem i71_39 {xs : List Int32} : xtI (xTa xs) 71 39 = some (.iconst 3, 1) := x_ins (j := 25) kk71 ia71 rfl
theorem i71_40 {xs : List Int32} : xtI (xTa xs) 71 40 = some (.if_icmp .eq 10, 3) := x_ins (j := 26) kk71 ia71 rfl
theorem i71_43 {xs : List Int32} : xtI (xTa xs) 71 43 = some (.iload 4, 2) := x_ins (j := 27) kk71 ia71 rfl
theorem i71_45 {xs : List Int32} : xtI (xTa xs) 71 45 = some (.bipush 6, 2) := x_ins (j := 28) kk71 ia71 rfl
theorem i71_47 {xs : List Int32} : xtI (xTa xs) 71 47 = some (.if_icmp .ne 21, 3) := x_ins (j := 29) kk71 ia71 rfl
theorem i71_50 {xs : List Int32} : xtI (xTa xs) 71 50 = some (.aload_n 0, 1) := x_ins (j := 30) kk71 ia71 rfl
theorem i71_51 {xs : List Int32} : xtI (xTa xs) 71 51 = some (.getfield 20, 3) := x_ins (j := 31) kk71 ia71 rfl
theorem i71_54 {xs : List Int32} : xtI (xTa xs) 71 54 = some (.iload 4, 2) := x_ins (j := 32) kk71 ia71 rfl
theorem i71_56 {xs : List Int32} : xtI (xTa xs) 71 56 = some (.invokevirtual 128, 3) := x_ins (j := 33) kk71 ia71 rfl
theorem i71_59 {xs : List Int32} : xtI (xTa xs) 71 59 = some (.ifnull 9, 3) := x_ins (j := 34) kk71 ia71 rfl
theorem i71_62 {xs : List Int32} : xtI (xTa xs) 71 62 = some (.aload_n 0, 1) := x_ins (j := 35) kk71 ia71 rfl
theorem i71_63 {xs : List Int32} : xtI (xTa xs) 71 63 = some (.iload_n 1, 1) := x_ins (j := 36) kk71 ia71 rfl
theorem i71_64 {xs : List Int32} : xtI (xTa xs) 71 64 = some (.iconst 5, 1) := x_ins (j := 37) kk71 ia71 rfl
theorem i71_65 {xs : List Int32} : xtI (xTa xs) 71 65 = some (.invokevirtual 81, 3) := x_ins (j := 38) kk71 ia71 rfl
theorem i71_68 {xs : List Int32} : xtI (xTa xs) 71 68 = some (.aload_n 0, 1) := x_ins (j := 39) kk71 ia71 rfl
theorem i71_69 {xs : List Int32} : xtI (xTa xs) 71 69 = some (.iload 4, 2) := x_ins (j := 40) kk71 ia71 rfl
theorem i71_71 {xs : List Int32} : xtI (xTa xs) 71 71 = some (.iload_n 1, 1) := x_ins (j := 41) kk71 ia71 rfl
theorem i71_72 {xs : List Int32} : xtI (xTa xs) 71 72 = some (.invokevirtual 112, 3) := x_ins (j := 42) kk71 ia71 rfl
theorem i71_75 {xs : List Int32} : xtI (xTa xs) 71 75 = some (.iload 4, 2) := x_ins (j := 43) kk71 ia71 rfl
theorem i71_77 {xs : List Int32} : xtI (xTa xs) 71 77 = some (.iconst 3, 1) := x_ins (j := 44) kk71 ia71 rfl
theorem i71_78 {xs : List Int32} : xtI (xTa xs) 71 78 = some (.if_icmp .ne 7, 3) := x_ins (j := 45) kk71 ia71 rfl
theorem i71_81 {xs : List Int32} : xtI (xTa xs) 71 81 = some (.iload_n 3, 1) := x_ins (j := 46) kk71 ia71 rfl
theorem i71_82 {xs : List Int32} : xtI (xTa xs) 71 82 = some (.goto 11, 3) := x_ins (j := 47) kk71 ia71 rfl
theorem i71_85 {xs : List Int32} : xtI (xTa xs) 71 85 = some (.aload_n 0, 1) := x_ins (j := 48) kk71 ia71 rfl
theorem i71_86 {xs : List Int32} : xtI (xTa xs) 71 86 = some (.iload 4, 2) := x_ins (j := 49) kk71 ia71 rfl
theorem i71_88 {xs : List Int32} : xtI (xTa xs) 71 88 = some (.iload_n 3, 1) := x_ins (j := 50) kk71 ia71 rfl
theorem i71_89 {xs : List Int32} : xtI (xTa xs) 71 89 = some (.iload_n 2, 1) := x_ins (j := 51) kk71 ia71 rfl
theorem i71_90 {xs : List Int32} : xtI (xTa xs) 71 90 = some (.invokevirtual 160, 3) := x_ins (j := 52) kk71 ia71 rfl
theorem i71_93 {xs : List Int32} : xtI (xTa xs) 71 93 = some (.istore 5, 2) := x_ins (j := 53) kk71 ia71 rfl
theorem i71_95 {xs : List Int32} : xtI (xTa xs) 71 95 = some (.aload_n 0, 1) := x_ins (j := 54) kk71 ia71 rfl
theorem i71_96 {xs : List Int32} : xtI (xTa xs) 71 96 = some (.getfield 29, 3) := x_ins (j := 55) kk71 ia71 rfl
theorem i71_99 {xs : List Int32} : xtI (xTa xs) 71 99 = some (.iload 5, 2) := x_ins (j := 56) kk71 ia71 rfl
theorem i71_101 {xs : List Int32} : xtI (xTa xs) 71 101 = some (.iload_n 2, 1) := x_ins (j := 57) kk71 ia71 rfl
theorem i71_102 {xs : List Int32} : xtI (xTa xs) 71 102 = some (.invokevirtual 55, 3) := x_ins (j := 58) kk71 ia71 rfl
theorem i71_105 {xs : List Int32} : xtI (xTa xs) 71 105 = some (.istore 6, 2) := x_ins (j := 59) kk71 ia71 rfl
theorem i71_107 {xs : List Int32} : xtI (xTa xs) 71 107 = some (.aload_n 0, 1) := x_ins (j := 60) kk71 ia71 rfl
theorem i71_108 {xs : List Int32} : xtI (xTa xs) 71 108 = some (.getfield 30, 3) := x_ins (j := 61) kk71 ia71 rfl
theorem i71_111 {xs : List Int32} : xtI (xTa xs) 71 111 = some (.ifnull 13, 3) := x_ins (j := 62) kk71 ia71 rfl
theorem i71_114 {xs : List Int32} : xtI (xTa xs) 71 114 = some (.aload_n 0, 1) := x_ins (j := 63) kk71 ia71 rfl
theorem i71_115 {xs : List Int32} : xtI (xTa xs) 71 115 = some (.getfield 30, 3) := x_ins (j := 64) kk71 ia71 rfl
theorem i71_118 {xs : List Int32} : xtI (xTa xs) 71 118 = some (.invokevirtual 121, 3) := x_ins (j := 65) kk71 ia71 rfl
theorem i71_121 {xs : List Int32} : xtI (xTa xs) 71 121 = some (.ifCond .ne 13, 3) := x_ins (j := 66) kk71 ia71 rfl
theorem i71_124 {xs : List Int32} : xtI (xTa xs) 71 124 = some (.aload_n 0, 1) := x_ins (j := 67) kk71 ia71 rfl
theorem i71_125 {xs : List Int32} : xtI (xTa xs) 71 125 = some (.iload 6, 2) := x_ins (j := 68) kk71 ia71 rfl
theorem i71_127 {xs : List Int32} : xtI (xTa xs) 71 127 = some (.iload_n 2, 1) := x_ins (j := 69) kk71 ia71 rfl
theorem i71_128 {xs : List Int32} : xtI (xTa xs) 71 128 = some (.invokevirtual 118, 3) := x_ins (j := 70) kk71 ia71 rfl
theorem i71_131 {xs : List Int32} : xtI (xTa xs) 71 131 = some (.goto 16, 3) := x_ins (j := 71) kk71 ia71 rfl
theorem i71_134 {xs : List Int32} : xtI (xTa xs) 71 134 = some (.iload 6, 2) := x_ins (j := 72) kk71 ia71 rfl
theorem i71_136 {xs : List Int32} : xtI (xTa xs) 71 136 = some (.iload_n 2, 1) := x_ins (j := 73) kk71 ia71 rfl
theorem i71_137 {xs : List Int32} : xtI (xTa xs) 71 137 = some (.if_icmp .ge 10, 3) := x_ins (j := 74) kk71 ia71 rfl
theorem i71_140 {xs : List Int32} : xtI (xTa xs) 71 140 = some (.aload_n 0, 1) := x_ins (j := 75) kk71 ia71 rfl
theorem i71_141 {xs : List Int32} : xtI (xTa xs) 71 141 = some (.iload 6, 2) := x_ins (j := 76) kk71 ia71 rfl
theorem i71_143 {xs : List Int32} : xtI (xTa xs) 71 143 = some (.iconst 2, 1) := x_ins (j := 77) kk71 ia71 rfl
theorem i71_144 {xs : List Int32} : xtI (xTa xs) 71 144 = some (.invokevirtual 81, 3) := x_ins (j := 78) kk71 ia71 rfl
theorem i71_147 {xs : List Int32} : xtI (xTa xs) 71 147 = some (.return_, 1) := x_ins (j := 79) kk71 ia71 rfl
theorem kk72 : xK0.getD 72 [] = k72 := rfl
set_option maxRecDepth 100000 in
theorem ia72 : (k72.all fun e => decide (k72.lookup e.1 = some e.2)) = true := by decide +kernel
theorem i72_0 {xs : List Int32} : xtI (xTa xs) 72 0 = some (.aload_n 0, 1) := x_ins (j := 0) kk72 ia72 rfl
theorem i72_1 {xs : List Int32} : xtI (xTa xs) 72 1 = some (.getfield 29, 3) := x_ins (j := 1) kk72 ia72 rfl
theorem i72_4 {xs : List Int32} : xtI (xTa xs) 72 4 = some (.iload_n 2, 1) := x_ins (j := 2) kk72 ia72 rfl
theorem i72_5 {xs : List Int32} : xtI (xTa xs) 72 5 = some (.iload_n 3, 1) := x_ins (j := 3) kk72 ia72 rfl
theorem i72_6 {xs : List Int32} : xtI (xTa xs) 72 6 = some (.invokevirtual 55, 3) := x_ins (j := 4) kk72 ia72 rfl
theorem i72_9 {xs : List Int32} : xtI (xTa xs) 72 9 = some (.istore 4, 2) := x_ins (j := 5) kk72 ia72 rfl
theorem i72_11 {xs : List Int32} : xtI (xTa xs) 72 11 = some (.aload_n 0, 1) := x_ins (j := 6) kk72 ia72 rfl
theorem i72_12 {xs : List Int32} : xtI (xTa xs) 72 12 = some (.getfield 29, 3) := x_ins (j := 7) kk72 ia72 rfl
theorem i72_15 {xs : List Int32} : xtI (xTa xs) 72 15 = some (.bipush 32, 2) := x_ins (j := 8) kk72 ia72 rfl
theorem i72_17 {xs : List Int32} : xtI (xTa xs) 72 17 = some (.iload 4, 2) := x_ins (j := 9) kk72 ia72 rfl
theorem i72_19 {xs : List Int32} : xtI (xTa xs) 72 19 = some (.iload_n 3, 1) := x_ins (j := 10) kk72 ia72 rfl
theorem i72_20 {xs : List Int32} : xtI (xTa xs) 72 20 = some (.invokevirtual 51, 3) := x_ins (j := 11) kk72 ia72 rfl
theorem i72_23 {xs : List Int32} : xtI (xTa xs) 72 23 = some (.istore 5, 2) := x_ins (j := 12) kk72 ia72 rfl
theorem i72_25 {xs : List Int32} : xtI (xTa xs) 72 25 = some (.iload_n 1, 1) := x_ins (j := 13) kk72 ia72 rfl
theorem i72_26 {xs : List Int32} : xtI (xTa xs) 72 26 = some (.iconst 2, 1) := x_ins (j := 14) kk72 ia72 rfl
theorem i72_27 {xs : List Int32} : xtI (xTa xs) 72 27 = some (.if_icmp .ne 19, 3) := x_ins (j := 15) kk72 ia72 rfl
theorem i72_30 {xs : List Int32} : xtI (xTa xs) 72 30 = some (.aload_n 0, 1) := x_ins (j := 16) kk72 ia72 rfl
theorem i72_31 {xs : List Int32} : xtI (xTa xs) 72 31 = some (.getfield 29, 3) := x_ins (j := 17) kk72 ia72 rfl
theorem i72_34 {xs : List Int32} : xtI (xTa xs) 72 34 = some (.iload 4, 2) := x_ins (j := 18) kk72 ia72 rfl
theorem i72_36 {xs : List Int32} : xtI (xTa xs) 72 36 = some (.iload 5, 2) := x_ins (j := 19) kk72 ia72 rfl
theorem i72_38 {xs : List Int32} : xtI (xTa xs) 72 38 = some (.invokevirtual 163, 3) := x_ins (j := 20) kk72 ia72 rfl
theorem i72_41 {xs : List Int32} : xtI (xTa xs) 72 41 = some (.istore 6, 2) := x_ins (j := 21) kk72 ia72 rfl
theorem i72_43 {xs : List Int32} : xtI (xTa xs) 72 43 = some (.goto 38, 3) := x_ins (j := 22) kk72 ia72 rfl
theorem i72_46 {xs : List Int32} : xtI (xTa xs) 72 46 = some (.iload_n 1, 1) := x_ins (j := 23) kk72 ia72 rfl
theorem i72_47 {xs : List Int32} : xtI (xTa xs) 72 47 = some (.bipush 6, 2) := x_ins (j := 24) kk72 ia72 rfl
theorem i72_49 {xs : List Int32} : xtI (xTa xs) 72 49 = some (.if_icmp .ne 19, 3) := x_ins (j := 25) kk72 ia72 rfl
theorem i72_52 {xs : List Int32} : xtI (xTa xs) 72 52 = some (.aload_n 0, 1) := x_ins (j := 26) kk72 ia72 rfl
theorem i72_53 {xs : List Int32} : xtI (xTa xs) 72 53 = some (.getfield 29, 3) := x_ins (j := 27) kk72 ia72 rfl
theorem i72_56 {xs : List Int32} : xtI (xTa xs) 72 56 = some (.iload 4, 2) := x_ins (j := 28) kk72 ia72 rfl
theorem i72_58 {xs : List Int32} : xtI (xTa xs) 72 58 = some (.iload 5, 2) := x_ins (j := 29) kk72 ia72 rfl
theorem i72_60 {xs : List Int32} : xtI (xTa xs) 72 60 = some (.invokevirtual 166, 3) := x_ins (j := 30) kk72 ia72 rfl
theorem i72_63 {xs : List Int32} : xtI (xTa xs) 72 63 = some (.istore 6, 2) := x_ins (j := 31) kk72 ia72 rfl
theorem i72_65 {xs : List Int32} : xtI (xTa xs) 72 65 = some (.goto 16, 3) := x_ins (j := 32) kk72 ia72 rfl
theorem i72_68 {xs : List Int32} : xtI (xTa xs) 72 68 = some (.aload_n 0, 1) := x_ins (j := 33) kk72 ia72 rfl
theorem i72_69 {xs : List Int32} : xtI (xTa xs) 72 69 = some (.getfield 29, 3) := x_ins (j := 34) kk72 ia72 rfl
theorem i72_72 {xs : List Int32} : xtI (xTa xs) 72 72 = some (.iload 4, 2) := x_ins (j := 35) kk72 ia72 rfl
theorem i72_74 {xs : List Int32} : xtI (xTa xs) 72 74 = some (.iload 5, 2) := x_ins (j := 36) kk72 ia72 rfl
theorem i72_76 {xs : List Int32} : xtI (xTa xs) 72 76 = some (.invokevirtual 169, 3) := x_ins (j := 37) kk72 ia72 rfl
theorem i72_79 {xs : List Int32} : xtI (xTa xs) 72 79 = some (.istore 6, 2) := x_ins (j := 38) kk72 ia72 rfl
theorem i72_81 {xs : List Int32} : xtI (xTa xs) 72 81 = some (.iload 6, 2) := x_ins (j := 39) kk72 ia72 rfl
theorem i72_83 {xs : List Int32} : xtI (xTa xs) 72 83 = some (.ifCond .eq 10, 3) := x_ins (j := 40) kk72 ia72 rfl
theorem i72_86 {xs : List Int32} : xtI (xTa xs) 72 86 = some (.aload_n 0, 1) := x_ins (j := 41) kk72 ia72 rfl
theorem i72_87 {xs : List Int32} : xtI (xTa xs) 72 87 = some (.getfield 30, 3) := x_ins (j := 42) kk72 ia72 rfl
theorem i72_90 {xs : List Int32} : xtI (xTa xs) 72 90 = some (.ifnonnull 12, 3) := x_ins (j := 43) kk72 ia72 rfl
theorem i72_93 {xs : List Int32} : xtI (xTa xs) 72 93 = some (.aload_n 0, 1) := x_ins (j := 44) kk72 ia72 rfl
theorem i72_94 {xs : List Int32} : xtI (xTa xs) 72 94 = some (.iload 4, 2) := x_ins (j := 45) kk72 ia72 rfl
theorem i72_96 {xs : List Int32} : xtI (xTa xs) 72 96 = some (.iconst 2, 1) := x_ins (j := 46) kk72 ia72 rfl
theorem i72_97 {xs : List Int32} : xtI (xTa xs) 72 97 = some (.invokevirtual 81, 3) := x_ins (j := 47) kk72 ia72 rfl
theorem i72_100 {xs : List Int32} : xtI (xTa xs) 72 100 = some (.iload_n 3, 1) := x_ins (j := 48) kk72 ia72 rfl
theorem i72_101 {xs : List Int32} : xtI (xTa xs) 72 101 = some (.ireturn, 1) := x_ins (j := 49) kk72 ia72 rfl
theorem i72_102 {xs : List Int32} : xtI (xTa xs) 72 102 = some (.iload_n 1, 1) := x_ins (j := 50) kk72 ia72 rfl
theorem i72_103 {xs : List Int32} : xtI (xTa xs) 72 103 = some (.iconst 2, 1) := x_ins (j := 51) kk72 ia72 rfl
theorem i72_104 {xs : List Int32} : xtI (xTa xs) 72 104 = some (.if_icmp .ne 26, 3) := x_ins (j := 52) kk72 ia72 rfl
theorem i72_107 {xs : List Int32} : xtI (xTa xs) 72 107 = some (.aload_n 0, 1) := x_ins (j := 53) kk72 ia72 rfl
theorem i72_108 {xs : List Int32} : xtI (xTa xs) 72 108 = some (.iload 4, 2) := x_ins (j := 54) kk72 ia72 rfl
theorem i72_110 {xs : List Int32} : xtI (xTa xs) 72 110 = some (.iload 5, 2) := x_ins (j := 55) kk72 ia72 rfl
theorem i72_112 {xs : List Int32} : xtI (xTa xs) 72 112 = some (.invokevirtual 172, 3) := x_ins (j := 56) kk72 ia72 rfl
theorem i72_115 {xs : List Int32} : xtI (xTa xs) 72 115 = some (.ifCond .eq 15, 3) := x_ins (j := 57) kk72 ia72 rfl
theorem i72_118 {xs : List Int32} : xtI (xTa xs) 72 118 = some (.aload_n 0, 1) := x_ins (j := 58) kk72 ia72 rfl
theorem i72_119 {xs : List Int32} : xtI (xTa xs) 72 119 = some (.aload_n 0, 1) := x_ins (j := 59) kk72 ia72 rfl
theorem i72_120 {xs : List Int32} : xtI (xTa xs) 72 120 = some (.getfield 30, 3) := x_ins (j := 60) kk72 ia72 rfl
theorem i72_123 {xs : List Int32} : xtI (xTa xs) 72 123 = some (.getfield 175, 3) := x_ins (j := 61) kk72 ia72 rfl
theorem i72_126 {xs : List Int32} : xtI (xTa xs) 72 126 = some (.iconst 5, 1) := x_ins (j := 62) kk72 ia72 rfl
theorem i72_127 {xs : List Int32} : xtI (xTa xs) 72 127 = some (.invokevirtual 81, 3) := x_ins (j := 63) kk72 ia72 rfl
theorem i72_130 {xs : List Int32} : xtI (xTa xs) 72 130 = some (.aload_n 0, 1) := x_ins (j := 64) kk72 ia72 rfl
theorem i72_131 {xs : List Int32} : xtI (xTa xs) 72 131 = some (.getfield 30, 3) := x_ins (j := 65) kk72 ia72 rfl
theorem i72_134 {xs : List Int32} : xtI (xTa xs) 72 134 = some (.iload 4, 2) := x_ins (j := 66) kk72 ia72 rfl
theorem i72_136 {xs : List Int32} : xtI (xTa xs) 72 136 = some (.putfield 176, 3) := x_ins (j := 67) kk72 ia72 rfl
theorem i72_139 {xs : List Int32} : xtI (xTa xs) 72 139 = some (.aload_n 0, 1) := x_ins (j := 68) kk72 ia72 rfl
theorem i72_140 {xs : List Int32} : xtI (xTa xs) 72 140 = some (.getfield 30, 3) := x_ins (j := 69) kk72 ia72 rfl
theorem i72_143 {xs : List Int32} : xtI (xTa xs) 72 143 = some (.iload 5, 2) := x_ins (j := 70) kk72 ia72 rfl
theorem i72_145 {xs : List Int32} : xtI (xTa xs) 72 145 = some (.putfield 179, 3) := x_ins (j := 71) kk72 ia72 rfl
theorem i72_148 {xs : List Int32} : xtI (xTa xs) 72 148 = some (.iload 5, 2) := x_ins (j := 72) kk72 ia72 rfl
theorem i72_150 {xs : List Int32} : xtI (xTa xs) 72 150 = some (.ireturn, 1) := x_ins (j := 73) kk72 ia72 rfl
theorem kk73 : xK0.getD 73 [] = k73 := rfl
set_option maxRecDepth 100000 in
theorem ia73 : (k73.all fun e => decide (k73.lookup e.1 = some e.2)) = true := by decide +kernel
theorem i73_0 {xs : List Int32} : xtI (xTa xs) 73 0 = some (.aload_n 0, 1) := x_ins (j := 0) kk73 ia73 rfl
theorem i73_1 {xs : List Int32} : xtI (xTa xs) 73 1 = some (.getfield 14, 3) := x_ins (j := 1) kk73 ia73 rfl
theorem i73_4 {xs : List Int32} : xtI (xTa xs) 73 4 = some (.iconst 0, 1) := x_ins (j := 2) kk73 ia73 rfl
theorem i73_5 {xs : List Int32} : xtI (xTa xs) 73 5 = some (.invokevirtual 182, 3) := x_ins (j := 3) kk73 ia73 rfl
theorem i73_8 {xs : List Int32} : xtI (xTa xs) 73 8 = some (.aload_n 0, 1) := x_ins (j := 4) kk73 ia73 rfl
theorem i73_9 {xs : List Int32} : xtI (xTa xs) 73 9 = some (.getfield 14, 3) := x_ins (j := 5) kk73 ia73 rfl
theorem i73_12 {xs : List Int32} : xtI (xTa xs) 73 12 = some (.aload_n 0, 1) := x_ins (j := 6) kk73 ia73 rfl
theorem i73_13 {xs : List Int32} : xtI (xTa xs) 73 13 = some (.getfield 29, 3) := x_ins (j := 7) kk73 ia73 rfl
theorem i73_16 {xs : List Int32} : xtI (xTa xs) 73 16 = some (.iload_n 1, 1) := x_ins (j := 8) kk73 ia73 rfl
theorem i73_17 {xs : List Int32} : xtI (xTa xs) 73 17 = some (.iload_n 2, 1) := x_ins (j := 9) kk73 ia73 rfl
theorem i73_18 {xs : List Int32} : xtI (xTa xs) 73 18 = some (.invokevirtual 185, 3) := x_ins (j := 10) kk73 ia73 rfl
theorem i73_21 {xs : List Int32} : xtI (xTa xs) 73 21 = some (.aload_n 0, 1) := x_ins (j := 11) kk73 ia73 rfl
theorem i73_22 {xs : List Int32} : xtI (xTa xs) 73 22 = some (.getfield 20, 3) := x_ins (j := 12) kk73 ia73 rfl
theorem i73_25 {xs : List Int32} : xtI (xTa xs) 73 25 = some (.aload_n 0, 1) := x_ins (j := 13) kk73 ia73 rfl
theorem i73_26 {xs : List Int32} : xtI (xTa xs) 73 26 = some (.getfield 14, 3) := x_ins (j := 14) kk73 ia73 rfl
theorem i73_29 {xs : List Int32} : xtI (xTa xs) 73 29 = some (.invokevirtual 189, 3) := x_ins (j := 15) kk73 ia73 rfl
theorem i73_32 {xs : List Int32} : xtI (xTa xs) 73 32 = some (.ireturn, 1) := x_ins (j := 16) kk73 ia73 rfl
theorem kk74 : xK0.getD 74 [] = k74 := rfl
set_option maxRecDepth 100000 in
theorem ia74 : (k74.all fun e => decide (k74.lookup e.1 = some e.2)) = true := by decide +kernel
theorem i74_0 {xs : List Int32} : xtI (xTa xs) 74 0 = some (.aload_n 0, 1) := x_ins (j := 0) kk74 ia74 rfl
theorem i74_1 {xs : List Int32} : xtI (xTa xs) 74 1 = some (.getfield 29, 3) := x_ins (j := 1) kk74 ia74 rfl
theorem i74_4 {xs : List Int32} : xtI (xTa xs) 74 4 = some (.iload_n 1, 1) := x_ins (j := 2) kk74 ia74 rfl
theorem i74_5 {xs : List Int32} : xtI (xTa xs) 74 5 = some (.iload_n 2, 1) := x_ins (j := 3) kk74 ia74 rfl
theorem i74_6 {xs : List Int32} : xtI (xTa xs) 74 6 = some (.invokevirtual 55, 3) := x_ins (j := 4) kk74 ia74 rfl
theorem i74_9 {xs : List Int32} : xtI (xTa xs) 74 9 = some (.istore_n 3, 1) := x_ins (j := 5) kk74 ia74 rfl
theorem i74_10 {xs : List Int32} : xtI (xTa xs) 74 10 = some (.iconst 0, 1) := x_ins (j := 6) kk74 ia74 rfl
theorem i74_11 {xs : List Int32} : xtI (xTa xs) 74 11 = some (.istore 4, 2) := x_ins (j := 7) kk74 ia74 rfl
theorem i74_13 {xs : List Int32} : xtI (xTa xs) 74 13 = some (.iconst 0, 1) := x_ins (j := 8) kk74 ia74 rfl
theorem i74_14 {xs : List Int32} : xtI (xTa xs) 74 14 = some (.istore 5, 2) := x_ins (j := 9) kk74 ia74 rfl
theorem i74_16 {xs : List Int32} : xtI (xTa xs) 74 16 = some (.iload 5, 2) := x_ins (j := 10) kk74 ia74 rfl
theorem i74_18 {xs : List Int32} : xtI (xTa xs) 74 18 = some (.sipush 600, 3) := x_ins (j := 11) kk74 ia74 rfl
theorem i74_21 {xs : List Int32} : xtI (xTa xs) 74 21 = some (.if_icmp .ge 152, 3) := x_ins (j := 12) kk74 ia74 rfl
theorem i74_24 {xs : List Int32} : xtI (xTa xs) 74 24 = some (.iload_n 3, 1) := x_ins (j := 13) kk74 ia74 rfl
theorem i74_25 {xs : List Int32} : xtI (xTa xs) 74 25 = some (.iload_n 2, 1) := x_ins (j := 14) kk74 ia74 rfl
theorem i74_26 {xs : List Int32} : xtI (xTa xs) 74 26 = some (.if_icmp .ge 147, 3) := x_ins (j := 15) kk74 ia74 rfl
theorem i74_29 {xs : List Int32} : xtI (xTa xs) 74 29 = some (.aload_n 0, 1) := x_ins (j := 16) kk74 ia74 rfl
theorem i74_30 {xs : List Int32} : xtI (xTa xs) 74 30 = some (.getfield 29, 3) := x_ins (j := 17) kk74 ia74 rfl
theorem i74_33 {xs : List Int32} : xtI (xTa xs) 74 33 = some (.iload_n 3, 1) := x_ins (j := 18) kk74 ia74 rfl
theorem i74_34 {xs : List Int32} : xtI (xTa xs) 74 34 = some (.ldc 193, 2) := x_ins (j := 19) kk74 ia74 rfl
theorem i74_36 {xs : List Int32} : xtI (xTa xs) 74 36 = some (.invokevirtual 134, 3) := x_ins (j := 20) kk74 ia74 rfl
theorem i74_39 {xs : List Int32} : xtI (xTa xs) 74 39 = some (.ifCond .eq 14, 3) := x_ins (j := 21) kk74 ia74 rfl
theorem i74_42 {xs : List Int32} : xtI (xTa xs) 74 42 = some (.aload_n 0, 1) := x_ins (j := 22) kk74 ia74 rfl
theorem i74_43 {xs : List Int32} : xtI (xTa xs) 74 43 = some (.iload_n 3, 1) := x_ins (j := 23) kk74 ia74 rfl
theorem i74_44 {xs : List Int32} : xtI (xTa xs) 74 44 = some (.iload_n 2, 1) := x_ins (j := 24) kk74 ia74 rfl
theorem i74_45 {xs : List Int32} : xtI (xTa xs) 74 45 = some (.invokevirtual 195, 3) := x_ins (j := 25) kk74 ia74 rfl
theorem i74_48 {xs : List Int32} : xtI (xTa xs) 74 48 = some (.astore 6, 2) := x_ins (j := 26) kk74 ia74 rfl
theorem i74_50 {xs : List Int32} : xtI (xTa xs) 74 50 = some (.goto 35, 3) := x_ins (j := 27) kk74 ia74 rfl
theorem i74_53 {xs : List Int32} : xtI (xTa xs) 74 53 = some (.aload_n 0, 1) := x_ins (j := 28) kk74 ia74 rfl
theorem i74_54 {xs : List Int32} : xtI (xTa xs) 74 54 = some (.getfield 29, 3) := x_ins (j := 29) kk74 ia74 rfl
theorem i74_57 {xs : List Int32} : xtI (xTa xs) 74 57 = some (.iload_n 3, 1) := x_ins (j := 30) kk74 ia74 rfl
theorem i74_58 {xs : List Int32} : xtI (xTa xs) 74 58 = some (.ldc 199, 2) := x_ins (j := 31) kk74 ia74 rfl
theorem i74_60 {xs : List Int32} : xtI (xTa xs) 74 60 = some (.invokevirtual 134, 3) := x_ins (j := 32) kk74 ia74 rfl
theorem i74_63 {xs : List Int32} : xtI (xTa xs) 74 63 = some (.ifCond .eq 14, 3) := x_ins (j := 33) kk74 ia74 rfl
theorem i74_66 {xs : List Int32} : xtI (xTa xs) 74 66 = some (.aload_n 0, 1) := x_ins (j := 34) kk74 ia74 rfl
theorem i74_67 {xs : List Int32} : xtI (xTa xs) 74 67 = some (.iload_n 3, 1) := x_ins (j := 35) kk74 ia74 rfl
theorem i74_68 {xs : List Int32} : xtI (xTa xs) 74 68 = some (.iload_n 2, 1) := x_ins (j := 36) kk74 ia74 rfl
theorem i74_69 {xs : List Int32} : xtI (xTa xs) 74 69 = some (.invokevirtual 201, 3) := x_ins (j := 37) kk74 ia74 rfl
theorem i74_72 {xs : List Int32} : xtI (xTa xs) 74 72 = some (.astore 6, 2) := x_ins (j := 38) kk74 ia74 rfl
theorem i74_74 {xs : List Int32} : xtI (xTa xs) 74 74 = some (.goto 11, 3) := x_ins (j := 39) kk74 ia74 rfl
theorem i74_77 {xs : List Int32} : xtI (xTa xs) 74 77 = some (.aload_n 0, 1) := x_ins (j := 40) kk74 ia74 rfl
theorem i74_78 {xs : List Int32} : xtI (xTa xs) 74 78 = some (.iload_n 3, 1) := x_ins (j := 41) kk74 ia74 rfl
theorem i74_79 {xs : List Int32} : xtI (xTa xs) 74 79 = some (.iload_n 2, 1) := x_ins (j := 42) kk74 ia74 rfl
theorem i74_80 {xs : List Int32} : xtI (xTa xs) 74 80 = some (.invokevirtual 204, 3) := x_ins (j := 43) kk74 ia74 rfl
theorem i74_83 {xs : List Int32} : xtI (xTa xs) 74 83 = some (.astore 6, 2) := x_ins (j := 44) kk74 ia74 rfl
theorem i74_85 {xs : List Int32} : xtI (xTa xs) 74 85 = some (.aload 6, 2) := x_ins (j := 45) kk74 ia74 rfl
theorem i74_87 {xs : List Int32} : xtI (xTa xs) 74 87 = some (.ifnull 10, 3) := x_ins (j := 46) kk74 ia74 rfl
theorem i74_90 {xs : List Int32} : xtI (xTa xs) 74 90 = some (.aload_n 0, 1) := x_ins (j := 47) kk74 ia74 rfl
theorem i74_91 {xs : List Int32} : xtI (xTa xs) 74 91 = some (.getfield 30, 3) := x_ins (j := 48) kk74 ia74 rfl
theorem i74_94 {xs : List Int32} : xtI (xTa xs) 74 94 = some (.ifnonnull 4, 3) := x_ins (j := 49) kk74 ia74 rfl
theorem i74_97 {xs : List Int32} : xtI (xTa xs) 74 97 = some (.return_, 1) := x_ins (j := 50) kk74 ia74 rfl
theorem i74_98 {xs : List Int32} : xtI (xTa xs) 74 98 = some (.aload 6, 2) := x_ins (j := 51) kk74 ia74 rfl
theorem i74_100 {xs : List Int32} : xtI (xTa xs) 74 100 = some (.iload 4, 2) := x_ins (j := 52) kk74 ia74 rfl
theorem i74_102 {xs : List Int32} : xtI (xTa xs) 74 102 = some (.putfield 207, 3) := x_ins (j := 53) kk74 ia74 rfl
theorem i74_105 {xs : List Int32} : xtI (xTa xs) 74 105 = some (.aload_n 0, 1) := x_ins (j := 54) kk74 ia74 rfl
theorem i74_106 {xs : List Int32} : xtI (xTa xs) 74 106 = some (.getfield 30, 3) := x_ins (j := 55) kk74 ia74 rfl
theorem i74_109 {xs : List Int32} : xtI (xTa xs) 74 109 = some (.dup, 1) := x_ins (j := 56) kk74 ia74 rfl
theorem i74_110 {xs : List Int32} : xtI (xTa xs) 74 110 = some (.getfield 212, 3) := x_ins (j := 57) kk74 ia74 rfl
theorem i74_113 {xs : List Int32} : xtI (xTa xs) 74 113 = some (.iconst 1, 1) := x_ins (j := 58) kk74 ia74 rfl
theorem i74_114 {xs : List Int32} : xtI (xTa xs) 74 114 = some (.iadd, 1) := x_ins (j := 59) kk74 ia74 rfl
theorem i74_115 {xs : List Int32} : xtI (xTa xs) 74 115 = some (.putfield 212, 3) := x_ins (j := 60) kk74 ia74 rfl
theorem i74_118 {xs : List Int32} : xtI (xTa xs) 74 118 = some (.aload 6, 2) := x_ins (j := 61) kk74 ia74 rfl
theorem i74_120 {xs : List Int32} : xtI (xTa xs) 74 120 = some (.getfield 215, 3) := x_ins (j := 62) kk74 ia74 rfl
theorem i74_123 {xs : List Int32} : xtI (xTa xs) 74 123 = some (.ifCond .ne 11, 3) := x_ins (j := 63) kk74 ia74 rfl
theorem i74_126 {xs : List Int32} : xtI (xTa xs) 74 126 = some (.aload 6, 2) := x_ins (j := 64) kk74 ia74 rfl
theorem i74_128 {xs : List Int32} : xtI (xTa xs) 74 128 = some (.getfield 216, 3) := x_ins (j := 65) kk74 ia74 rfl
theorem i74_131 {xs : List Int32} : xtI (xTa xs) 74 131 = some (.goto 10, 3) := x_ins (j := 66) kk74 ia74 rfl
theorem i74_134 {xs : List Int32} : xtI (xTa xs) 74 134 = some (.aload 6, 2) := x_ins (j := 67) kk74 ia74 rfl
theorem i74_136 {xs : List Int32} : xtI (xTa xs) 74 136 = some (.getfield 216, 3) := x_ins (j := 68) kk74 ia74 rfl
theorem i74_139 {xs : List Int32} : xtI (xTa xs) 74 139 = some (.iconst 1, 1) := x_ins (j := 69) kk74 ia74 rfl
theorem i74_140 {xs : List Int32} : xtI (xTa xs) 74 140 = some (.iadd, 1) := x_ins (j := 70) kk74 ia74 rfl
theorem i74_141 {xs : List Int32} : xtI (xTa xs) 74 141 = some (.istore 7, 2) := x_ins (j := 71) kk74 ia74 rfl
theorem i74_143 {xs : List Int32} : xtI (xTa xs) 74 143 = some (.aload_n 0, 1) := x_ins (j := 72) kk74 ia74 rfl
theorem i74_144 {xs : List Int32} : xtI (xTa xs) 74 144 = some (.getfield 29, 3) := x_ins (j := 73) kk74 ia74 rfl
theorem i74_147 {xs : List Int32} : xtI (xTa xs) 74 147 = some (.iload 7, 2) := x_ins (j := 74) kk74 ia74 rfl
theorem i74_149 {xs : List Int32} : xtI (xTa xs) 74 149 = some (.iload_n 2, 1) := x_ins (j := 75) kk74 ia74 rfl
theorem i74_150 {xs : List Int32} : xtI (xTa xs) 74 150 = some (.invokevirtual 55, 3) := x_ins (j := 76) kk74 ia74 rfl
theorem i74_153 {xs : List Int32} : xtI (xTa xs) 74 153 = some (.istore_n 3, 1) := x_ins (j := 77) kk74 ia74 rfl
theorem i74_154 {xs : List Int32} : xtI (xTa xs) 74 154 = some (.iload_n 3, 1) := x_ins (j := 78) kk74 ia74 rfl
theorem i74_155 {xs : List Int32} : xtI (xTa xs) 74 155 = some (.iload 7, 2) := x_ins (j := 79) kk74 ia74 rfl
theorem i74_157 {xs : List Int32} : xtI (xTa xs) 74 157 = some (.if_icmp .ne 7, 3) := x_ins (j := 80) kk74 ia74 rfl
theorem i74_160 {xs : List Int32} : xtI (xTa xs) 74 160 = some (.iconst 1, 1) := x_ins (j := 81) kk74 ia74 rfl
theorem i74_161 {xs : List Int32} : xtI (xTa xs) 74 161 = some (.goto 4, 3) := x_ins (j := 82) kk74 ia74 rfl
theorem i74_164 {xs : List Int32} : xtI (xTa xs) 74 164 = some (.iconst 0, 1) := x_ins (j := 83) kk74 ia74 rfl
theorem i74_165 {xs : List Int32} : xtI (xTa xs) 74 165 = some (.istore 4, 2) := x_ins (j := 84) kk74 ia74 rfl
theorem i74_167 {xs : List Int32} : xtI (xTa xs) 74 167 = some (.iinc 5 1, 3) := x_ins (j := 85) kk74 ia74 rfl
theorem i74_170 {xs : List Int32} : xtI (xTa xs) 74 170 = some (.goto (-154), 3) := x_ins (j := 86) kk74 ia74 rfl
theorem i74_173 {xs : List Int32} : xtI (xTa xs) 74 173 = some (.return_, 1) := x_ins (j := 87) kk74 ia74 rfl
theorem kk75 : xK0.getD 75 [] = k75 := rfl
set_option maxRecDepth 100000 in
theorem ia75 : (k75.all fun e => decide (k75.lookup e.1 = some e.2)) = true := by decide +kernel
theorem i75_0 {xs : List Int32} : xtI (xTa xs) 75 0 = some (.iload_n 1, 1) := x_ins (j := 0) kk75 ia75 rfl
theorem i75_1 {xs : List Int32} : xtI (xTa xs) 75 1 = some (.istore_n 3, 1) := x_ins (j := 1) kk75 ia75 rfl
theorem i75_2 {xs : List Int32} : xtI (xTa xs) 75 2 = some (.iload_n 3, 1) := x_ins (j := 2) kk75 ia75 rfl
theorem i75_3 {xs : List Int32} : xtI (xTa xs) 75 3 = some (.iload_n 2, 1) := x_ins (j := 3) kk75 ia75 rfl
theorem i75_4 {xs : List Int32} : xtI (xTa xs) 75 4 = some (.if_icmp .ge 23, 3) := x_ins (j := 4) kk75 ia75 rfl
theorem i75_7 {xs : List Int32} : xtI (xTa xs) 75 7 = some (.aload_n 0, 1) := x_ins (j := 5) kk75 ia75 rfl
theorem i75_8 {xs : List Int32} : xtI (xTa xs) 75 8 = some (.getfield 29, 3) := x_ins (j := 6) kk75 ia75 rfl
theorem i75_11 {xs : List Int32} : xtI (xTa xs) 75 11 = some (.iload_n 3, 1) := x_ins (j := 7) kk75 ia75 rfl
theorem i75_12 {xs : List Int32} : xtI (xTa xs) 75 12 = some (.invokevirtual 73, 3) := x_ins (j := 8) kk75 ia75 rfl
theorem i75_15 {xs : List Int32} : xtI (xTa xs) 75 15 = some (.invokestatic 219, 3) := x_ins (j := 9) kk75 ia75 rfl
theorem i75_18 {xs : List Int32} : xtI (xTa xs) 75 18 = some (.ifCond .ne 9, 3) := x_ins (j := 10) kk75 ia75 rfl
theorem i75_21 {xs : List Int32} : xtI (xTa xs) 75 21 = some (.iinc 3 1, 3) := x_ins (j := 11) kk75 ia75 rfl
theorem i75_24 {xs : List Int32} : xtI (xTa xs) 75 24 = some (.goto (-22), 3) := x_ins (j := 12) kk75 ia75 rfl
theorem i75_27 {xs : List Int32} : xtI (xTa xs) 75 27 = some (.aload_n 0, 1) := x_ins (j := 13) kk75 ia75 rfl
theorem i75_28 {xs : List Int32} : xtI (xTa xs) 75 28 = some (.iload_n 1, 1) := x_ins (j := 14) kk75 ia75 rfl
theorem i75_29 {xs : List Int32} : xtI (xTa xs) 75 29 = some (.iload_n 3, 1) := x_ins (j := 15) kk75 ia75 rfl
theorem i75_30 {xs : List Int32} : xtI (xTa xs) 75 30 = some (.iload_n 3, 1) := x_ins (j := 16) kk75 ia75 rfl
theorem i75_31 {xs : List Int32} : xtI (xTa xs) 75 31 = some (.iload_n 1, 1) := x_ins (j := 17) kk75 ia75 rfl
theorem i75_32 {xs : List Int32} : xtI (xTa xs) 75 32 = some (.if_icmp .le 7, 3) := x_ins (j := 18) kk75 ia75 rfl
theorem i75_35 {xs : List Int32} : xtI (xTa xs) 75 35 = some (.iconst 1, 1) := x_ins (j := 19) kk75 ia75 rfl
theorem i75_36 {xs : List Int32} : xtI (xTa xs) 75 36 = some (.goto 4, 3) := x_ins (j := 20) kk75 ia75 rfl
theorem i75_39 {xs : List Int32} : xtI (xTa xs) 75 39 = some (.iconst 0, 1) := x_ins (j := 21) kk75 ia75 rfl
theorem i75_40 {xs : List Int32} : xtI (xTa xs) 75 40 = some (.invokevirtual 222, 3) := x_ins (j := 22) kk75 ia75 rfl
theorem i75_43 {xs : List Int32} : xtI (xTa xs) 75 43 = some (.areturn, 1) := x_ins (j := 23) kk75 ia75 rfl
theorem kk76 : xK0.getD 76 [] = k76 := rfl
set_option maxRecDepth 100000 in
theorem ia76 : (k76.all fun e => decide (k76.lookup e.1 = some e.2)) = true := by decide +kernel
theorem i76_0 {xs : List Int32} : xtI (xTa xs) 76 0 = some (.iload_n 0, 1) := x_ins (j := 0) kk76 ia76 rfl
theorem i76_1 {xs : List Int32} : xtI (xTa xs) 76 1 = some (.bipush 32, 2) := x_ins (j := 1) kk76 ia76 rfl
theorem i76_3 {xs : List Int32} : xtI (xTa xs) 76 3 = some (.if_icmp .eq 15, 3) := x_ins (j := 2) kk76 ia76 rfl
theorem i76_6 {xs : List Int32} : xtI (xTa xs) 76 6 = some (.iload_n 0, 1) := x_ins (j := 3) kk76 ia76 rfl
theorem i76_7 {xs : List Int32} : xtI (xTa xs) 76 7 = some (.bipush 123, 2) := x_ins (j := 4) kk76 ia76 rfl
theorem i76_9 {xs : List Int32} : xtI (xTa xs) 76 9 = some (.if_icmp .eq 9, 3) := x_ins (j := 5) kk76 ia76 rfl
theorem i76_12 {xs : List Int32} : xtI (xTa xs) 76 12 = some (.iload_n 0, 1) := x_ins (j := 6) kk76 ia76 rfl
theorem i76_13 {xs : List Int32} : xtI (xTa xs) 76 13 = some (.bipush 125, 2) := x_ins (j := 7) kk76 ia76 rfl
theorem i76_15 {xs : List Int32} : xtI (xTa xs) 76 15 = some (.if_icmp .ne 7, 3) := x_ins (j := 8) kk76 ia76 rfl
theorem i76_18 {xs : List Int32} : xtI (xTa xs) 76 18 = some (.iconst 1, 1) := x_ins (j := 9) kk76 ia76 rfl
theorem i76_19 {xs : List Int32} : xtI (xTa xs) 76 19 = some (.goto 4, 3) := x_ins (j := 10) kk76 ia76 rfl
theorem i76_22 {xs : List Int32} : xtI (xTa xs) 76 22 = some (.iconst 0, 1) := x_ins (j := 11) kk76 ia76 rfl
theorem i76_23 {xs : List Int32} : xtI (xTa xs) 76 23 = some (.ireturn, 1) := x_ins (j := 12) kk76 ia76 rfl
theorem kk77 : xK0.getD 77 [] = k77 := rfl
set_option maxRecDepth 100000 in
theorem ia77 : (k77.all fun e => decide (k77.lookup e.1 = some e.2)) = true := by decide +kernel
theorem i77_0 {xs : List Int32} : xtI (xTa xs) 77 0 = some (.iload_n 3, 1) := x_ins (j := 0) kk77 ia77 rfl
theorem i77_1 {xs : List Int32} : xtI (xTa xs) 77 1 = some (.ifCond .ne 11, 3) := x_ins (j := 1) kk77 ia77 rfl
theorem i77_4 {xs : List Int32} : xtI (xTa xs) 77 4 = some (.aload_n 0, 1) := x_ins (j := 2) kk77 ia77 rfl
theorem i77_5 {xs : List Int32} : xtI (xTa xs) 77 5 = some (.iload_n 1, 1) := x_ins (j := 3) kk77 ia77 rfl
theorem i77_6 {xs : List Int32} : xtI (xTa xs) 77 6 = some (.iconst 2, 1) := x_ins (j := 4) kk77 ia77 rfl
theorem i77_7 {xs : List Int32} : xtI (xTa xs) 77 7 = some (.invokevirtual 81, 3) := x_ins (j := 5) kk77 ia77 rfl
theorem i77_10 {xs : List Int32} : xtI (xTa xs) 77 10 = some (.aconst_null, 1) := x_ins (j := 6) kk77 ia77 rfl
theorem i77_11 {xs : List Int32} : xtI (xTa xs) 77 11 = some (.areturn, 1) := x_ins (j := 7) kk77 ia77 rfl
theorem i77_12 {xs : List Int32} : xtI (xTa xs) 77 12 = some (.aload_n 0, 1) := x_ins (j := 8) kk77 ia77 rfl
theorem i77_13 {xs : List Int32} : xtI (xTa xs) 77 13 = some (.getfield 20, 3) := x_ins (j := 9) kk77 ia77 rfl
theorem i77_16 {xs : List Int32} : xtI (xTa xs) 77 16 = some (.iload_n 1, 1) := x_ins (j := 10) kk77 ia77 rfl
theorem i77_17 {xs : List Int32} : xtI (xTa xs) 77 17 = some (.iload_n 2, 1) := x_ins (j := 11) kk77 ia77 rfl
theorem i77_18 {xs : List Int32} : xtI (xTa xs) 77 18 = some (.invokevirtual 226, 3) := x_ins (j := 12) kk77 ia77 rfl
theorem i77_21 {xs : List Int32} : xtI (xTa xs) 77 21 = some (.astore 4, 2) := x_ins (j := 13) kk77 ia77 rfl
theorem i77_23 {xs : List Int32} : xtI (xTa xs) 77 23 = some (.aload 4, 2) := x_ins (j := 14) kk77 ia77 rfl
theorem i77_25 {xs : List Int32} : xtI (xTa xs) 77 25 = some (.ifnonnull 9, 3) := x_ins (j := 15) kk77 ia77 rfl
theorem i77_28 {xs : List Int32} : xtI (xTa xs) 77 28 = some (.aload_n 0, 1) := x_ins (j := 16) kk77 ia77 rfl
theorem i77_29 {xs : List Int32} : xtI (xTa xs) 77 29 = some (.iload_n 1, 1) := x_ins (j := 17) kk77 ia77 rfl
theorem i77_30 {xs : List Int32} : xtI (xTa xs) 77 30 = some (.iconst 4, 1) := x_ins (j := 18) kk77 ia77 rfl
theorem i77_31 {xs : List Int32} : xtI (xTa xs) 77 31 = some (.invokevirtual 81, 3) := x_ins (j := 19) kk77 ia77 rfl
theorem i77_34 {xs : List Int32} : xtI (xTa xs) 77 34 = some (.aload 4, 2) := x_ins (j := 20) kk77 ia77 rfl
theorem i77_36 {xs : List Int32} : xtI (xTa xs) 77 36 = some (.areturn, 1) := x_ins (j := 21) kk77 ia77 rfl
theorem kk78 : xK0.getD 78 [] = k78 := rfl
set_option maxRecDepth 100000 in
theorem ia78 : (k78.all fun e => decide (k78.lookup e.1 = some e.2)) = true := by decide +kernel
theorem i78_0 {xs : List Int32} : xtI (xTa xs) 78 0 = some (.iload_n 1, 1) := x_ins (j := 0) kk78 ia78 rfl
theorem i78_1 {xs : List Int32} : xtI (xTa xs) 78 1 = some (.ldc 193, 2) := x_ins (j := 1) kk78 ia78 rfl
theorem i78_3 {xs : List Int32} : xtI (xTa xs) 78 3 = some (.invokevirtual 147, 3) := x_ins (j := 2) kk78 ia78 rfl
theorem i78_6 {xs : List Int32} : xtI (xTa xs) 78 6 = some (.iadd, 1) := x_ins (j := 3) kk78 ia78 rfl
theorem i78_7 {xs : List Int32} : xtI (xTa xs) 78 7 = some (.istore_n 3, 1) := x_ins (j := 4) kk78 ia78 rfl
theorem i78_8 {xs : List Int32} : xtI (xTa xs) 78 8 = some (.iconst 1, 1) := x_ins (j := 5) kk78 ia78 rfl
theorem i78_9 {xs : List Int32} : xtI (xTa xs) 78 9 = some (.istore 4, 2) := x_ins (j := 6) kk78 ia78 rfl
theorem i78_11 {xs : List Int32} : xtI (xTa xs) 78 11 = some (.iload_n 3, 1) := x_ins (j := 7) kk78 ia78 rfl
theorem i78_12 {xs : List Int32} : xtI (xTa xs) 78 12 = some (.istore 5, 2) := x_ins (j := 8) kk78 ia78 rfl
theorem i78_14 {xs : List Int32} : xtI (xTa xs) 78 14 = some (.iload 5, 2) := x_ins (j := 9) kk78 ia78 rfl
theorem i78_16 {xs : List Int32} : xtI (xTa xs) 78 16 = some (.iload_n 2, 1) := x_ins (j := 10) kk78 ia78 rfl
theorem i78_17 {xs : List Int32} : xtI (xTa xs) 78 17 = some (.if_icmp .ge 51, 3) := x_ins (j := 11) kk78 ia78 rfl
theorem i78_20 {xs : List Int32} : xtI (xTa xs) 78 20 = some (.iload 4, 2) := x_ins (j := 12) kk78 ia78 rfl
theorem i78_22 {xs : List Int32} : xtI (xTa xs) 78 22 = some (.ifCond .le 46, 3) := x_ins (j := 13) kk78 ia78 rfl
theorem i78_25 {xs : List Int32} : xtI (xTa xs) 78 25 = some (.aload_n 0, 1) := x_ins (j := 14) kk78 ia78 rfl
theorem i78_26 {xs : List Int32} : xtI (xTa xs) 78 26 = some (.getfield 29, 3) := x_ins (j := 15) kk78 ia78 rfl
theorem i78_29 {xs : List Int32} : xtI (xTa xs) 78 29 = some (.iload 5, 2) := x_ins (j := 16) kk78 ia78 rfl
theorem i78_31 {xs : List Int32} : xtI (xTa xs) 78 31 = some (.invokevirtual 73, 3) := x_ins (j := 17) kk78 ia78 rfl
theorem i78_34 {xs : List Int32} : xtI (xTa xs) 78 34 = some (.bipush 123, 2) := x_ins (j := 18) kk78 ia78 rfl
theorem i78_36 {xs : List Int32} : xtI (xTa xs) 78 36 = some (.if_icmp .ne 9, 3) := x_ins (j := 19) kk78 ia78 rfl
theorem i78_39 {xs : List Int32} : xtI (xTa xs) 78 39 = some (.iinc 4 1, 3) := x_ins (j := 20) kk78 ia78 rfl
theorem i78_42 {xs : List Int32} : xtI (xTa xs) 78 42 = some (.goto 20, 3) := x_ins (j := 21) kk78 ia78 rfl
theorem i78_45 {xs : List Int32} : xtI (xTa xs) 78 45 = some (.aload_n 0, 1) := x_ins (j := 22) kk78 ia78 rfl
theorem i78_46 {xs : List Int32} : xtI (xTa xs) 78 46 = some (.getfield 29, 3) := x_ins (j := 23) kk78 ia78 rfl
theorem i78_49 {xs : List Int32} : xtI (xTa xs) 78 49 = some (.iload 5, 2) := x_ins (j := 24) kk78 ia78 rfl
theorem i78_51 {xs : List Int32} : xtI (xTa xs) 78 51 = some (.invokevirtual 73, 3) := x_ins (j := 25) kk78 ia78 rfl
theorem i78_54 {xs : List Int32} : xtI (xTa xs) 78 54 = some (.bipush 125, 2) := x_ins (j := 26) kk78 ia78 rfl
theorem i78_56 {xs : List Int32} : xtI (xTa xs) 78 56 = some (.if_icmp .ne 6, 3) := x_ins (j := 27) kk78 ia78 rfl
theorem i78_59 {xs : List Int32} : xtI (xTa xs) 78 59 = some (.iinc 4 (-1), 3) := x_ins (j := 28) kk78 ia78 rfl
theorem i78_62 {xs : List Int32} : xtI (xTa xs) 78 62 = some (.iinc 5 1, 3) := x_ins (j := 29) kk78 ia78 rfl
theorem i78_65 {xs : List Int32} : xtI (xTa xs) 78 65 = some (.goto (-51), 3) := x_ins (j := 30) kk78 ia78 rfl
theorem i78_68 {xs : List Int32} : xtI (xTa xs) 78 68 = some (.aload_n 0, 1) := x_ins (j := 31) kk78 ia78 rfl
theorem i78_69 {xs : List Int32} : xtI (xTa xs) 78 69 = some (.iload_n 1, 1) := x_ins (j := 32) kk78 ia78 rfl
theorem i78_70 {xs : List Int32} : xtI (xTa xs) 78 70 = some (.iload 5, 2) := x_ins (j := 33) kk78 ia78 rfl
theorem i78_72 {xs : List Int32} : xtI (xTa xs) 78 72 = some (.iconst 1, 1) := x_ins (j := 34) kk78 ia78 rfl
theorem i78_73 {xs : List Int32} : xtI (xTa xs) 78 73 = some (.isub, 1) := x_ins (j := 35) kk78 ia78 rfl
theorem i78_74 {xs : List Int32} : xtI (xTa xs) 78 74 = some (.iload 4, 2) := x_ins (j := 36) kk78 ia78 rfl
theorem i78_76 {xs : List Int32} : xtI (xTa xs) 78 76 = some (.ifCond .ne 22, 3) := x_ins (j := 37) kk78 ia78 rfl
theorem i78_79 {xs : List Int32} : xtI (xTa xs) 78 79 = some (.iload 5, 2) := x_ins (j := 38) kk78 ia78 rfl
theorem i78_81 {xs : List Int32} : xtI (xTa xs) 78 81 = some (.iconst 1, 1) := x_ins (j := 39) kk78 ia78 rfl
theorem i78_82 {xs : List Int32} : xtI (xTa xs) 78 82 = some (.isub, 1) := x_ins (j := 40) kk78 ia78 rfl
theorem i78_83 {xs : List Int32} : xtI (xTa xs) 78 83 = some (.iload_n 3, 1) := x_ins (j := 41) kk78 ia78 rfl
theorem i78_84 {xs : List Int32} : xtI (xTa xs) 78 84 = some (.isub, 1) := x_ins (j := 42) kk78 ia78 rfl
theorem i78_85 {xs : List Int32} : xtI (xTa xs) 78 85 = some (.iconst 1, 1) := x_ins (j := 43) kk78 ia78 rfl
theorem i78_86 {xs : List Int32} : xtI (xTa xs) 78 86 = some (.bipush 60, 2) := x_ins (j := 44) kk78 ia78 rfl
theorem i78_88 {xs : List Int32} : xtI (xTa xs) 78 88 = some (.invokestatic 77, 3) := x_ins (j := 45) kk78 ia78 rfl
theorem i78_91 {xs : List Int32} : xtI (xTa xs) 78 91 = some (.ifCond .eq 7, 3) := x_ins (j := 46) kk78 ia78 rfl
theorem i78_94 {xs : List Int32} : xtI (xTa xs) 78 94 = some (.iconst 1, 1) := x_ins (j := 47) kk78 ia78 rfl
theorem i78_95 {xs : List Int32} : xtI (xTa xs) 78 95 = some (.goto 4, 3) := x_ins (j := 48) kk78 ia78 rfl
theorem i78_98 {xs : List Int32} : xtI (xTa xs) 78 98 = some (.iconst 0, 1) := x_ins (j := 49) kk78 ia78 rfl
theorem i78_99 {xs : List Int32} : xtI (xTa xs) 78 99 = some (.invokevirtual 222, 3) := x_ins (j := 50) kk78 ia78 rfl
theorem i78_102 {xs : List Int32} : xtI (xTa xs) 78 102 = some (.astore 6, 2) := x_ins (j := 51) kk78 ia78 rfl
theorem i78_104 {xs : List Int32} : xtI (xTa xs) 78 104 = some (.aload 6, 2) := x_ins (j := 52) kk78 ia78 rfl
theorem i78_106 {xs : List Int32} : xtI (xTa xs) 78 106 = some (.ifnull 15, 3) := x_ins (j := 53) kk78 ia78 rfl
theorem i78_109 {xs : List Int32} : xtI (xTa xs) 78 109 = some (.aload 6, 2) := x_ins (j := 54) kk78 ia78 rfl
theorem i78_111 {xs : List Int32} : xtI (xTa xs) 78 111 = some (.iconst 1, 1) := x_ins (j := 55) kk78 ia78 rfl
theorem i78_112 {xs : List Int32} : xtI (xTa xs) 78 112 = some (.putfield 215, 3) := x_ins (j := 56) kk78 ia78 rfl
theorem i78_115 {xs : List Int32} : xtI (xTa xs) 78 115 = some (.aload 6, 2) := x_ins (j := 57) kk78 ia78 rfl
theorem i78_117 {xs : List Int32} : xtI (xTa xs) 78 117 = some (.iload_n 3, 1) := x_ins (j := 58) kk78 ia78 rfl
theorem i78_118 {xs : List Int32} : xtI (xTa xs) 78 118 = some (.putfield 228, 3) := x_ins (j := 59) kk78 ia78 rfl
theorem i78_121 {xs : List Int32} : xtI (xTa xs) 78 121 = some (.aload 6, 2) := x_ins (j := 60) kk78 ia78 rfl
theorem i78_123 {xs : List Int32} : xtI (xTa xs) 78 123 = some (.areturn, 1) := x_ins (j := 61) kk78 ia78 rfl
theorem kk79 : xK0.getD 79 [] = k79 := rfl
set_option maxRecDepth 100000 in
theorem ia79 : (k79.all fun e => decide (k79.lookup e.1 = some e.2)) = true := by decide +kernel
theorem i79_0 {xs : List Int32} : xtI (xTa xs) 79 0 = some (.iload_n 1, 1) := x_ins (j := 0) kk79 ia79 rfl
theorem i79_1 {xs : List Int32} : xtI (xTa xs) 79 1 = some (.ldc 199, 2) := x_ins (j := 1) kk79 ia79 rfl
theorem i79_3 {xs : List Int32} : xtI (xTa xs) 79 3 = some (.invokevirtual 147, 3) := x_ins (j := 2) kk79 ia79 rfl
theorem i79_6 {xs : List Int32} : xtI (xTa xs) 79 6 = some (.iadd, 1) := x_ins (j := 3) kk79 ia79 rfl
theorem i79_7 {xs : List Int32} : xtI (xTa xs) 79 7 = some (.istore_n 3, 1) := x_ins (j := 4) kk79 ia79 rfl
theorem i79_8 {xs : List Int32} : xtI (xTa xs) 79 8 = some (.aload_n 0, 1) := x_ins (j := 5) kk79 ia79 rfl
theorem i79_9 {xs : List Int32} : xtI (xTa xs) 79 9 = some (.getfield 29, 3) := x_ins (j := 6) kk79 ia79 rfl
theorem i79_12 {xs : List Int32} : xtI (xTa xs) 79 12 = some (.bipush 125, 2) := x_ins (j := 7) kk79 ia79 rfl
theorem i79_14 {xs : List Int32} : xtI (xTa xs) 79 14 = some (.iload_n 3, 1) := x_ins (j := 8) kk79 ia79 rfl
theorem i79_15 {xs : List Int32} : xtI (xTa xs) 79 15 = some (.iload_n 2, 1) := x_ins (j := 9) kk79 ia79 rfl
theorem i79_16 {xs : List Int32} : xtI (xTa xs) 79 16 = some (.invokevirtual 51, 3) := x_ins (j := 10) kk79 ia79 rfl
theorem i79_19 {xs : List Int32} : xtI (xTa xs) 79 19 = some (.istore 4, 2) := x_ins (j := 11) kk79 ia79 rfl
theorem i79_21 {xs : List Int32} : xtI (xTa xs) 79 21 = some (.aload_n 0, 1) := x_ins (j := 12) kk79 ia79 rfl
theorem i79_22 {xs : List Int32} : xtI (xTa xs) 79 22 = some (.getfield 29, 3) := x_ins (j := 13) kk79 ia79 rfl
theorem i79_25 {xs : List Int32} : xtI (xTa xs) 79 25 = some (.bipush 32, 2) := x_ins (j := 14) kk79 ia79 rfl
theorem i79_27 {xs : List Int32} : xtI (xTa xs) 79 27 = some (.iload_n 3, 1) := x_ins (j := 15) kk79 ia79 rfl
theorem i79_28 {xs : List Int32} : xtI (xTa xs) 79 28 = some (.iload 4, 2) := x_ins (j := 16) kk79 ia79 rfl
theorem i79_30 {xs : List Int32} : xtI (xTa xs) 79 30 = some (.invokevirtual 51, 3) := x_ins (j := 17) kk79 ia79 rfl
theorem i79_33 {xs : List Int32} : xtI (xTa xs) 79 33 = some (.istore 5, 2) := x_ins (j := 18) kk79 ia79 rfl
theorem i79_35 {xs : List Int32} : xtI (xTa xs) 79 35 = some (.aload_n 0, 1) := x_ins (j := 19) kk79 ia79 rfl
theorem i79_36 {xs : List Int32} : xtI (xTa xs) 79 36 = some (.getfield 29, 3) := x_ins (j := 20) kk79 ia79 rfl
theorem i79_39 {xs : List Int32} : xtI (xTa xs) 79 39 = some (.iload 5, 2) := x_ins (j := 21) kk79 ia79 rfl
theorem i79_41 {xs : List Int32} : xtI (xTa xs) 79 41 = some (.iload 4, 2) := x_ins (j := 22) kk79 ia79 rfl
theorem i79_43 {xs : List Int32} : xtI (xTa xs) 79 43 = some (.invokevirtual 55, 3) := x_ins (j := 23) kk79 ia79 rfl
theorem i79_46 {xs : List Int32} : xtI (xTa xs) 79 46 = some (.istore 6, 2) := x_ins (j := 24) kk79 ia79 rfl
theorem i79_48 {xs : List Int32} : xtI (xTa xs) 79 48 = some (.iload 4, 2) := x_ins (j := 25) kk79 ia79 rfl
theorem i79_50 {xs : List Int32} : xtI (xTa xs) 79 50 = some (.iload_n 2, 1) := x_ins (j := 26) kk79 ia79 rfl
theorem i79_51 {xs : List Int32} : xtI (xTa xs) 79 51 = some (.if_icmp .ge 38, 3) := x_ins (j := 27) kk79 ia79 rfl
theorem i79_54 {xs : List Int32} : xtI (xTa xs) 79 54 = some (.aload_n 0, 1) := x_ins (j := 28) kk79 ia79 rfl
theorem i79_55 {xs : List Int32} : xtI (xTa xs) 79 55 = some (.getfield 29, 3) := x_ins (j := 29) kk79 ia79 rfl
theorem i79_58 {xs : List Int32} : xtI (xTa xs) 79 58 = some (.iload_n 3, 1) := x_ins (j := 30) kk79 ia79 rfl
theorem i79_59 {xs : List Int32} : xtI (xTa xs) 79 59 = some (.iload 5, 2) := x_ins (j := 31) kk79 ia79 rfl
theorem i79_61 {xs : List Int32} : xtI (xTa xs) 79 61 = some (.invokevirtual 169, 3) := x_ins (j := 32) kk79 ia79 rfl
theorem i79_64 {xs : List Int32} : xtI (xTa xs) 79 64 = some (.ifCond .eq 25, 3) := x_ins (j := 33) kk79 ia79 rfl
theorem i79_67 {xs : List Int32} : xtI (xTa xs) 79 67 = some (.iload 5, 2) := x_ins (j := 34) kk79 ia79 rfl
theorem i79_69 {xs : List Int32} : xtI (xTa xs) 79 69 = some (.iload 4, 2) := x_ins (j := 35) kk79 ia79 rfl
theorem i79_71 {xs : List Int32} : xtI (xTa xs) 79 71 = some (.if_icmp .eq 14, 3) := x_ins (j := 36) kk79 ia79 rfl
theorem i79_74 {xs : List Int32} : xtI (xTa xs) 79 74 = some (.aload_n 0, 1) := x_ins (j := 37) kk79 ia79 rfl
theorem i79_75 {xs : List Int32} : xtI (xTa xs) 79 75 = some (.iload 6, 2) := x_ins (j := 38) kk79 ia79 rfl
theorem i79_77 {xs : List Int32} : xtI (xTa xs) 79 77 = some (.iload 4, 2) := x_ins (j := 39) kk79 ia79 rfl
theorem i79_79 {xs : List Int32} : xtI (xTa xs) 79 79 = some (.invokevirtual 231, 3) := x_ins (j := 40) kk79 ia79 rfl
theorem i79_82 {xs : List Int32} : xtI (xTa xs) 79 82 = some (.ifCond .eq 7, 3) := x_ins (j := 41) kk79 ia79 rfl
theorem i79_85 {xs : List Int32} : xtI (xTa xs) 79 85 = some (.iconst 1, 1) := x_ins (j := 42) kk79 ia79 rfl
theorem i79_86 {xs : List Int32} : xtI (xTa xs) 79 86 = some (.goto 4, 3) := x_ins (j := 43) kk79 ia79 rfl
theorem i79_89 {xs : List Int32} : xtI (xTa xs) 79 89 = some (.iconst 0, 1) := x_ins (j := 44) kk79 ia79 rfl
theorem i79_90 {xs : List Int32} : xtI (xTa xs) 79 90 = some (.istore 7, 2) := x_ins (j := 45) kk79 ia79 rfl
theorem i79_92 {xs : List Int32} : xtI (xTa xs) 79 92 = some (.aload_n 0, 1) := x_ins (j := 46) kk79 ia79 rfl
theorem i79_93 {xs : List Int32} : xtI (xTa xs) 79 93 = some (.iload_n 1, 1) := x_ins (j := 47) kk79 ia79 rfl
theorem i79_94 {xs : List Int32} : xtI (xTa xs) 79 94 = some (.iload 4, 2) := x_ins (j := 48) kk79 ia79 rfl
theorem i79_96 {xs : List Int32} : xtI (xTa xs) 79 96 = some (.iload 7, 2) := x_ins (j := 49) kk79 ia79 rfl
theorem i79_98 {xs : List Int32} : xtI (xTa xs) 79 98 = some (.invokevirtual 222, 3) := x_ins (j := 50) kk79 ia79 rfl
theorem i79_101 {xs : List Int32} : xtI (xTa xs) 79 101 = some (.astore 8, 2) := x_ins (j := 51) kk79 ia79 rfl
theorem i79_103 {xs : List Int32} : xtI (xTa xs) 79 103 = some (.aload 8, 2) := x_ins (j := 52) kk79 ia79 rfl
theorem i79_105 {xs : List Int32} : xtI (xTa xs) 79 105 = some (.ifnull 40, 3) := x_ins (j := 53) kk79 ia79 rfl
theorem i79_108 {xs : List Int32} : xtI (xTa xs) 79 108 = some (.aload 8, 2) := x_ins (j := 54) kk79 ia79 rfl
theorem i79_110 {xs : List Int32} : xtI (xTa xs) 79 110 = some (.iconst 2, 1) := x_ins (j := 55) kk79 ia79 rfl
theorem i79_111 {xs : List Int32} : xtI (xTa xs) 79 111 = some (.putfield 215, 3) := x_ins (j := 56) kk79 ia79 rfl
theorem i79_114 {xs : List Int32} : xtI (xTa xs) 79 114 = some (.aload 8, 2) := x_ins (j := 57) kk79 ia79 rfl
theorem i79_116 {xs : List Int32} : xtI (xTa xs) 79 116 = some (.iload_n 3, 1) := x_ins (j := 58) kk79 ia79 rfl
theorem i79_117 {xs : List Int32} : xtI (xTa xs) 79 117 = some (.putfield 234, 3) := x_ins (j := 59) kk79 ia79 rfl
theorem i79_120 {xs : List Int32} : xtI (xTa xs) 79 120 = some (.aload 8, 2) := x_ins (j := 60) kk79 ia79 rfl
theorem i79_122 {xs : List Int32} : xtI (xTa xs) 79 122 = some (.iload 5, 2) := x_ins (j := 61) kk79 ia79 rfl
theorem i79_124 {xs : List Int32} : xtI (xTa xs) 79 124 = some (.putfield 235, 3) := x_ins (j := 62) kk79 ia79 rfl
theorem i79_127 {xs : List Int32} : xtI (xTa xs) 79 127 = some (.aload 8, 2) := x_ins (j := 63) kk79 ia79 rfl
theorem i79_129 {xs : List Int32} : xtI (xTa xs) 79 129 = some (.iload 5, 2) := x_ins (j := 64) kk79 ia79 rfl
theorem i79_131 {xs : List Int32} : xtI (xTa xs) 79 131 = some (.iload 4, 2) := x_ins (j := 65) kk79 ia79 rfl
theorem i79_133 {xs : List Int32} : xtI (xTa xs) 79 133 = some (.if_icmp .ne 7, 3) := x_ins (j := 66) kk79 ia79 rfl
theorem i79_136 {xs : List Int32} : xtI (xTa xs) 79 136 = some (.iload_n 3, 1) := x_ins (j := 67) kk79 ia79 rfl
theorem i79_137 {xs : List Int32} : xtI (xTa xs) 79 137 = some (.goto 5, 3) := x_ins (j := 68) kk79 ia79 rfl
theorem i79_140 {xs : List Int32} : xtI (xTa xs) 79 140 = some (.iload 6, 2) := x_ins (j := 69) kk79 ia79 rfl
theorem i79_142 {xs : List Int32} : xtI (xTa xs) 79 142 = some (.putfield 228, 3) := x_ins (j := 70) kk79 ia79 rfl
theorem i79_145 {xs : List Int32} : xtI (xTa xs) 79 145 = some (.aload 8, 2) := x_ins (j := 71) kk79 ia79 rfl
theorem i79_147 {xs : List Int32} : xtI (xTa xs) 79 147 = some (.areturn, 1) := x_ins (j := 72) kk79 ia79 rfl
theorem kk80 : xK0.getD 80 [] = k80 := rfl
set_option maxRecDepth 100000 in
theorem ia80 : (k80.all fun e => decide (k80.lookup e.1 = some e.2)) = true := by decide +kernel
theorem i80_0 {xs : List Int32} : xtI (xTa xs) 80 0 = some (.iload_n 2, 1) := x_ins (j := 0) kk80 ia80 rfl
theorem i80_1 {xs : List Int32} : xtI (xTa xs) 80 1 = some (.iload_n 1, 1) := x_ins (j := 1) kk80 ia80 rfl
theorem i80_2 {xs : List Int32} : xtI (xTa xs) 80 2 = some (.isub, 1) := x_ins (j := 2) kk80 ia80 rfl
theorem i80_3 {xs : List Int32} : xtI (xTa xs) 80 3 = some (.iconst 1, 1) := x_ins (j := 3) kk80 ia80 rfl
theorem i80_4 {xs : List Int32} : xtI (xTa xs) 80 4 = some (.bipush 60, 2) := x_ins (j := 4) kk80 ia80 rfl
theorem i80_6 {xs : List Int32} : xtI (xTa xs) 80 6 = some (.invokestatic 77, 3) := x_ins (j := 5) kk80 ia80 rfl
theorem i80_9 {xs : List Int32} : xtI (xTa xs) 80 9 = some (.ifCond .eq 37, 3) := x_ins (j := 6) kk80 ia80 rfl
theorem i80_12 {xs : List Int32} : xtI (xTa xs) 80 12 = some (.aload_n 0, 1) := x_ins (j := 7) kk80 ia80 rfl
theorem i80_13 {xs : List Int32} : xtI (xTa xs) 80 13 = some (.getfield 29, 3) := x_ins (j := 8) kk80 ia80 rfl
theorem i80_16 {xs : List Int32} : xtI (xTa xs) 80 16 = some (.iload_n 2, 1) := x_ins (j := 9) kk80 ia80 rfl
theorem i80_17 {xs : List Int32} : xtI (xTa xs) 80 17 = some (.iconst 1, 1) := x_ins (j := 10) kk80 ia80 rfl
theorem i80_18 {xs : List Int32} : xtI (xTa xs) 80 18 = some (.isub, 1) := x_ins (j := 11) kk80 ia80 rfl
theorem i80_19 {xs : List Int32} : xtI (xTa xs) 80 19 = some (.invokevirtual 73, 3) := x_ins (j := 12) kk80 ia80 rfl
theorem i80_22 {xs : List Int32} : xtI (xTa xs) 80 22 = some (.bipush 32, 2) := x_ins (j := 13) kk80 ia80 rfl
theorem i80_24 {xs : List Int32} : xtI (xTa xs) 80 24 = some (.if_icmp .eq 22, 3) := x_ins (j := 14) kk80 ia80 rfl
theorem i80_27 {xs : List Int32} : xtI (xTa xs) 80 27 = some (.aload_n 0, 1) := x_ins (j := 15) kk80 ia80 rfl
theorem i80_28 {xs : List Int32} : xtI (xTa xs) 80 28 = some (.getfield 29, 3) := x_ins (j := 16) kk80 ia80 rfl
theorem i80_31 {xs : List Int32} : xtI (xTa xs) 80 31 = some (.bipush 123, 2) := x_ins (j := 17) kk80 ia80 rfl
theorem i80_33 {xs : List Int32} : xtI (xTa xs) 80 33 = some (.iload_n 1, 1) := x_ins (j := 18) kk80 ia80 rfl
theorem i80_34 {xs : List Int32} : xtI (xTa xs) 80 34 = some (.iload_n 2, 1) := x_ins (j := 19) kk80 ia80 rfl
theorem i80_35 {xs : List Int32} : xtI (xTa xs) 80 35 = some (.invokevirtual 51, 3) := x_ins (j := 20) kk80 ia80 rfl
theorem i80_38 {xs : List Int32} : xtI (xTa xs) 80 38 = some (.iload_n 2, 1) := x_ins (j := 21) kk80 ia80 rfl
theorem i80_39 {xs : List Int32} : xtI (xTa xs) 80 39 = some (.if_icmp .ne 7, 3) := x_ins (j := 22) kk80 ia80 rfl
theorem i80_42 {xs : List Int32} : xtI (xTa xs) 80 42 = some (.iconst 1, 1) := x_ins (j := 23) kk80 ia80 rfl
theorem i80_43 {xs : List Int32} : xtI (xTa xs) 80 43 = some (.goto 4, 3) := x_ins (j := 24) kk80 ia80 rfl
theorem i80_46 {xs : List Int32} : xtI (xTa xs) 80 46 = some (.iconst 0, 1) := x_ins (j := 25) kk80 ia80 rfl
theorem i80_47 {xs : List Int32} : xtI (xTa xs) 80 47 = some (.ireturn, 1) := x_ins (j := 26) kk80 ia80 rfl
theorem kk81 : xK0.getD 81 [] = k81 := rfl
set_option maxRecDepth 100000 in
theorem ia81 : (k81.all fun e => decide (k81.lookup e.1 = some e.2)) = true := by decide +kernel
theorem i81_0 {xs : List Int32} : xtI (xTa xs) 81 0 = some (.aload_n 0, 1) := x_ins (j := 0) kk81 ia81 rfl
theorem i81_1 {xs : List Int32} : xtI (xTa xs) 81 1 = some (.invokespecial 3, 3) := x_ins (j := 1) kk81 ia81 rfl
theorem i81_4 {xs : List Int32} : xtI (xTa xs) 81 4 = some (.aload_n 0, 1) := x_ins (j := 2) kk81 ia81 rfl
theorem i81_5 {xs : List Int32} : xtI (xTa xs) 81 5 = some (.bipush 40, 2) := x_ins (j := 3) kk81 ia81 rfl
theorem i81_7 {xs : List Int32} : xtI (xTa xs) 81 7 = some (.anewarray 9, 3) := x_ins (j := 4) kk81 ia81 rfl
theorem i81_10 {xs : List Int32} : xtI (xTa xs) 81 10 = some (.putfield 11, 3) := x_ins (j := 5) kk81 ia81 rfl
theorem i81_13 {xs : List Int32} : xtI (xTa xs) 81 13 = some (.return_, 1) := x_ins (j := 6) kk81 ia81 rfl
theorem kk82 : xK0.getD 82 [] = k82 := rfl
set_option maxRecDepth 100000 in
theorem ia82 : (k82.all fun e => decide (k82.lookup e.1 = some e.2)) = true := by decide +kernel
theorem i82_0 {xs : List Int32} : xtI (xTa xs) 82 0 = some (.aload_n 0, 1) := x_ins (j := 0) kk82 ia82 rfl
theorem i82_1 {xs : List Int32} : xtI (xTa xs) 82 1 = some (.getfield 17, 3) := x_ins (j := 1) kk82 ia82 rfl
theorem i82_4 {xs : List Int32} : xtI (xTa xs) 82 4 = some (.aload_n 0, 1) := x_ins (j := 2) kk82 ia82 rfl
theorem i82_5 {xs : List Int32} : xtI (xTa xs) 82 5 = some (.getfield 11, 3) := x_ins (j := 3) kk82 ia82 rfl
theorem i82_8 {xs : List Int32} : xtI (xTa xs) 82 8 = some (.arraylength, 1) := x_ins (j := 4) kk82 ia82 rfl
theorem i82_9 {xs : List Int32} : xtI (xTa xs) 82 9 = some (.if_icmp .lt 6, 3) := x_ins (j := 5) kk82 ia82 rfl
theorem i82_12 {xs : List Int32} : xtI (xTa xs) 82 12 = some (.bipush (-3), 2) := x_ins (j := 6) kk82 ia82 rfl
theorem i82_14 {xs : List Int32} : xtI (xTa xs) 82 14 = some (.ireturn, 1) := x_ins (j := 7) kk82 ia82 rfl
theorem i82_15 {xs : List Int32} : xtI (xTa xs) 82 15 = some (.new 9, 3) := x_ins (j := 8) kk82 ia82 rfl
theorem i82_18 {xs : List Int32} : xtI (xTa xs) 82 18 = some (.dup, 1) := x_ins (j := 9) kk82 ia82 rfl
theorem i82_19 {xs : List Int32} : xtI (xTa xs) 82 19 = some (.aload_n 0, 1) := x_ins (j := 10) kk82 ia82 rfl
theorem i82_20 {xs : List Int32} : xtI (xTa xs) 82 20 = some (.getfield 17, 3) := x_ins (j := 11) kk82 ia82 rfl
theorem i82_23 {xs : List Int32} : xtI (xTa xs) 82 23 = some (.aload_n 1, 1) := x_ins (j := 12) kk82 ia82 rfl
theorem i82_24 {xs : List Int32} : xtI (xTa xs) 82 24 = some (.aload_n 2, 1) := x_ins (j := 13) kk82 ia82 rfl
theorem i82_25 {xs : List Int32} : xtI (xTa xs) 82 25 = some (.iload_n 3, 1) := x_ins (j := 14) kk82 ia82 rfl
theorem i82_26 {xs : List Int32} : xtI (xTa xs) 82 26 = some (.invokespecial 21, 3) := x_ins (j := 15) kk82 ia82 rfl
theorem i82_29 {xs : List Int32} : xtI (xTa xs) 82 29 = some (.astore 5, 2) := x_ins (j := 16) kk82 ia82 rfl
theorem i82_31 {xs : List Int32} : xtI (xTa xs) 82 31 = some (.aload 5, 2) := x_ins (j := 17) kk82 ia82 rfl
theorem i82_33 {xs : List Int32} : xtI (xTa xs) 82 33 = some (.getfield 24, 3) := x_ins (j := 18) kk82 ia82 rfl
theorem i82_36 {xs : List Int32} : xtI (xTa xs) 82 36 = some (.aload 4, 2) := x_ins (j := 19) kk82 ia82 rfl
theorem i82_38 {xs : List Int32} : xtI (xTa xs) 82 38 = some (.invokevirtual 28, 3) := x_ins (j := 20) kk82 ia82 rfl
theorem i82_41 {xs : List Int32} : xtI (xTa xs) 82 41 = some (.aload_n 0, 1) := x_ins (j := 21) kk82 ia82 rfl
theorem i82_42 {xs : List Int32} : xtI (xTa xs) 82 42 = some (.getfield 11, 3) := x_ins (j := 22) kk82 ia82 rfl
theorem i82_45 {xs : List Int32} : xtI (xTa xs) 82 45 = some (.aload_n 0, 1) := x_ins (j := 23) kk82 ia82 rfl
theorem i82_46 {xs : List Int32} : xtI (xTa xs) 82 46 = some (.getfield 17, 3) := x_ins (j := 24) kk82 ia82 rfl
theorem i82_49 {xs : List Int32} : xtI (xTa xs) 82 49 = some (.aload 5, 2) := x_ins (j := 25) kk82 ia82 rfl
theorem i82_51 {xs : List Int32} : xtI (xTa xs) 82 51 = some (.aastore, 1) := x_ins (j := 26) kk82 ia82 rfl
theorem i82_52 {xs : List Int32} : xtI (xTa xs) 82 52 = some (.aload_n 0, 1) := x_ins (j := 27) kk82 ia82 rfl
theorem i82_53 {xs : List Int32} : xtI (xTa xs) 82 53 = some (.dup, 1) := x_ins (j := 28) kk82 ia82 rfl
theorem i82_54 {xs : List Int32} : xtI (xTa xs) 82 54 = some (.getfield 17, 3) := x_ins (j := 29) kk82 ia82 rfl
theorem i82_57 {xs : List Int32} : xtI (xTa xs) 82 57 = some (.iconst 1, 1) := x_ins (j := 30) kk82 ia82 rfl
theorem i82_58 {xs : List Int32} : xtI (xTa xs) 82 58 = some (.iadd, 1) := x_ins (j := 31) kk82 ia82 rfl
theorem i82_59 {xs : List Int32} : xtI (xTa xs) 82 59 = some (.putfield 17, 3) := x_ins (j := 32) kk82 ia82 rfl
theorem i82_62 {xs : List Int32} : xtI (xTa xs) 82 62 = some (.aload 5, 2) := x_ins (j := 33) kk82 ia82 rfl
theorem i82_64 {xs : List Int32} : xtI (xTa xs) 82 64 = some (.getfield 34, 3) := x_ins (j := 34) kk82 ia82 rfl
theorem i82_67 {xs : List Int32} : xtI (xTa xs) 82 67 = some (.ireturn, 1) := x_ins (j := 35) kk82 ia82 rfl
theorem kk83 : xK0.getD 83 [] = k83 := rfl
set_option maxRecDepth 100000 in
theorem ia83 : (k83.all fun e => decide (k83.lookup e.1 = some e.2)) = true := by decide +kernel
theorem i83_0 {xs : List Int32} : xtI (xTa xs) 83 0 = some (.iload_n 1, 1) := x_ins (j := 0) kk83 ia83 rfl
theorem i83_1 {xs : List Int32} : xtI (xTa xs) 83 1 = some (.ifCond .lt 11, 3) := x_ins (j := 1) kk83 ia83 rfl
theorem i83_4 {xs : List Int32} : xtI (xTa xs) 83 4 = some (.iload_n 1, 1) := x_ins (j := 2) kk83 ia83 rfl
theorem i83_5 {xs : List Int32} : xtI (xTa xs) 83 5 = some (.aload_n 0, 1) := x_ins (j := 3) kk83 ia83 rfl
theorem i83_6 {xs : List Int32} : xtI (xTa xs) 83 6 = some (.getfield 17, 3) := x_ins (j := 4) kk83 ia83 rfl
theorem i83_9 {xs : List Int32} : xtI (xTa xs) 83 9 = some (.if_icmp .lt 7, 3) := x_ins (j := 5) kk83 ia83 rfl
theorem i83_12 {xs : List Int32} : xtI (xTa xs) 83 12 = some (.aconst_null, 1) := x_ins (j := 6) kk83 ia83 rfl
theorem i83_13 {xs : List Int32} : xtI (xTa xs) 83 13 = some (.goto 9, 3) := x_ins (j := 7) kk83 ia83 rfl
theorem i83_16 {xs : List Int32} : xtI (xTa xs) 83 16 = some (.aload_n 0, 1) := x_ins (j := 8) kk83 ia83 rfl
theorem i83_17 {xs : List Int32} : xtI (xTa xs) 83 17 = some (.getfield 11, 3) := x_ins (j := 9) kk83 ia83 rfl
theorem i83_20 {xs : List Int32} : xtI (xTa xs) 83 20 = some (.iload_n 1, 1) := x_ins (j := 10) kk83 ia83 rfl
theorem i83_21 {xs : List Int32} : xtI (xTa xs) 83 21 = some (.aaload, 1) := x_ins (j := 11) kk83 ia83 rfl
theorem i83_22 {xs : List Int32} : xtI (xTa xs) 83 22 = some (.areturn, 1) := x_ins (j := 12) kk83 ia83 rfl
theorem kk84 : xK0.getD 84 [] = k84 := rfl
set_option maxRecDepth 100000 in
theorem ia84 : (k84.all fun e => decide (k84.lookup e.1 = some e.2)) = true := by decide +kernel
theorem i84_0 {xs : List Int32} : xtI (xTa xs) 84 0 = some (.aload_n 0, 1) := x_ins (j := 0) kk84 ia84 rfl
theorem i84_1 {xs : List Int32} : xtI (xTa xs) 84 1 = some (.iload_n 1, 1) := x_ins (j := 1) kk84 ia84 rfl
theorem i84_2 {xs : List Int32} : xtI (xTa xs) 84 2 = some (.invokevirtual 37, 3) := x_ins (j := 2) kk84 ia84 rfl
theorem i84_5 {xs : List Int32} : xtI (xTa xs) 84 5 = some (.astore_n 2, 1) := x_ins (j := 3) kk84 ia84 rfl
theorem i84_6 {xs : List Int32} : xtI (xTa xs) 84 6 = some (.aload_n 2, 1) := x_ins (j := 4) kk84 ia84 rfl
theorem i84_7 {xs : List Int32} : xtI (xTa xs) 84 7 = some (.ifnull 14, 3) := x_ins (j := 5) kk84 ia84 rfl
theorem i84_10 {xs : List Int32} : xtI (xTa xs) 84 10 = some (.aload_n 2, 1) := x_ins (j := 6) kk84 ia84 rfl
theorem i84_11 {xs : List Int32} : xtI (xTa xs) 84 11 = some (.invokevirtual 41, 3) := x_ins (j := 7) kk84 ia84 rfl
theorem i84_14 {xs : List Int32} : xtI (xTa xs) 84 14 = some (.ifCond .eq 7, 3) := x_ins (j := 8) kk84 ia84 rfl
theorem i84_17 {xs : List Int32} : xtI (xTa xs) 84 17 = some (.aload_n 2, 1) := x_ins (j := 9) kk84 ia84 rfl
theorem i84_18 {xs : List Int32} : xtI (xTa xs) 84 18 = some (.goto 4, 3) := x_ins (j := 10) kk84 ia84 rfl
theorem i84_21 {xs : List Int32} : xtI (xTa xs) 84 21 = some (.aconst_null, 1) := x_ins (j := 11) kk84 ia84 rfl
theorem i84_22 {xs : List Int32} : xtI (xTa xs) 84 22 = some (.areturn, 1) := x_ins (j := 12) kk84 ia84 rfl
theorem kk85 : xK0.getD 85 [] = k85 := rfl
set_option maxRecDepth 100000 in
theorem ia85 : (k85.all fun e => decide (k85.lookup e.1 = some e.2)) = true := by decide +kernel
theorem i85_0 {xs : List Int32} : xtI (xTa xs) 85 0 = some (.iconst 0, 1) := x_ins (j := 0) kk85 ia85 rfl
theorem i85_1 {xs : List Int32} : xtI (xTa xs) 85 1 = some (.istore_n 1, 1) := x_ins (j := 1) kk85 ia85 rfl
theorem i85_2 {xs : List Int32} : xtI (xTa xs) 85 2 = some (.iconst 0, 1) := x_ins (j := 2) kk85 ia85 rfl
theorem i85_3 {xs : List Int32} : xtI (xTa xs) 85 3 = some (.istore_n 2, 1) := x_ins (j := 3) kk85 ia85 rfl
theorem i85_4 {xs : List Int32} : xtI (xTa xs) 85 4 = some (.iload_n 2, 1) := x_ins (j := 4) kk85 ia85 rfl
theorem i85_5 {xs : List Int32} : xtI (xTa xs) 85 5 = some (.aload_n 0, 1) := x_ins (j := 5) kk85 ia85 rfl
theorem i85_6 {xs : List Int32} : xtI (xTa xs) 85 6 = some (.getfield 17, 3) := x_ins (j := 6) kk85 ia85 rfl
theorem i85_9 {xs : List Int32} : xtI (xTa xs) 85 9 = some (.if_icmp .ge 20, 3) := x_ins (j := 7) kk85 ia85 rfl
theorem i85_12 {xs : List Int32} : xtI (xTa xs) 85 12 = some (.aload_n 0, 1) := x_ins (j := 8) kk85 ia85 rfl
theorem i85_13 {xs : List Int32} : xtI (xTa xs) 85 13 = some (.iload_n 2, 1) := x_ins (j := 9) kk85 ia85 rfl
theorem i85_14 {xs : List Int32} : xtI (xTa xs) 85 14 = some (.invokevirtual 45, 3) := x_ins (j := 10) kk85 ia85 rfl
theorem i85_17 {xs : List Int32} : xtI (xTa xs) 85 17 = some (.ifnull 6, 3) := x_ins (j := 11) kk85 ia85 rfl
theorem i85_20 {xs : List Int32} : xtI (xTa xs) 85 20 = some (.iinc 1 1, 3) := x_ins (j := 12) kk85 ia85 rfl
theorem i85_23 {xs : List Int32} : xtI (xTa xs) 85 23 = some (.iinc 2 1, 3) := x_ins (j := 13) kk85 ia85 rfl
theorem i85_26 {xs : List Int32} : xtI (xTa xs) 85 26 = some (.goto (-22), 3) := x_ins (j := 14) kk85 ia85 rfl
theorem i85_29 {xs : List Int32} : xtI (xTa xs) 85 29 = some (.iload_n 1, 1) := x_ins (j := 15) kk85 ia85 rfl
theorem i85_30 {xs : List Int32} : xtI (xTa xs) 85 30 = some (.ireturn, 1) := x_ins (j := 16) kk85 ia85 rfl
theorem kk86 : xK0.getD 86 [] = k86 := rfl
set_option maxRecDepth 100000 in
theorem ia86 : (k86.all fun e => decide (k86.lookup e.1 = some e.2)) = true := by decide +kernel
theorem i86_0 {xs : List Int32} : xtI (xTa xs) 86 0 = some (.iconst 0, 1) := x_ins (j := 0) kk86 ia86 rfl
theorem i86_1 {xs : List Int32} : xtI (xTa xs) 86 1 = some (.istore_n 1, 1) := x_ins (j := 1) kk86 ia86 rfl
theorem i86_2 {xs : List Int32} : xtI (xTa xs) 86 2 = some (.iconst 0, 1) := x_ins (j := 2) kk86 ia86 rfl
theorem i86_3 {xs : List Int32} : xtI (xTa xs) 86 3 = some (.istore_n 2, 1) := x_ins (j := 3) kk86 ia86 rfl
theorem i86_4 {xs : List Int32} : xtI (xTa xs) 86 4 = some (.iload_n 2, 1) := x_ins (j := 4) kk86 ia86 rfl
theorem i86_5 {xs : List Int32} : xtI (xTa xs) 86 5 = some (.aload_n 0, 1) := x_ins (j := 5) kk86 ia86 rfl
theorem i86_6 {xs : List Int32} : xtI (xTa xs) 86 6 = some (.getfield 17, 3) := x_ins (j := 6) kk86 ia86 rfl
theorem i86_9 {xs : List Int32} : xtI (xTa xs) 86 9 = some (.if_icmp .ge 29, 3) := x_ins (j := 7) kk86 ia86 rfl
theorem i86_12 {xs : List Int32} : xtI (xTa xs) 86 12 = some (.aload_n 0, 1) := x_ins (j := 8) kk86 ia86 rfl
theorem i86_13 {xs : List Int32} : xtI (xTa xs) 86 13 = some (.iload_n 2, 1) := x_ins (j := 9) kk86 ia86 rfl
theorem i86_14 {xs : List Int32} : xtI (xTa xs) 86 14 = some (.invokevirtual 37, 3) := x_ins (j := 10) kk86 ia86 rfl
theorem i86_17 {xs : List Int32} : xtI (xTa xs) 86 17 = some (.astore_n 3, 1) := x_ins (j := 11) kk86 ia86 rfl
theorem i86_18 {xs : List Int32} : xtI (xTa xs) 86 18 = some (.aload_n 3, 1) := x_ins (j := 12) kk86 ia86 rfl
theorem i86_19 {xs : List Int32} : xtI (xTa xs) 86 19 = some (.ifnull 13, 3) := x_ins (j := 13) kk86 ia86 rfl
theorem i86_22 {xs : List Int32} : xtI (xTa xs) 86 22 = some (.aload_n 3, 1) := x_ins (j := 14) kk86 ia86 rfl
theorem i86_23 {xs : List Int32} : xtI (xTa xs) 86 23 = some (.getfield 48, 3) := x_ins (j := 15) kk86 ia86 rfl
theorem i86_26 {xs : List Int32} : xtI (xTa xs) 86 26 = some (.ifCond .eq 6, 3) := x_ins (j := 16) kk86 ia86 rfl
theorem i86_29 {xs : List Int32} : xtI (xTa xs) 86 29 = some (.iinc 1 1, 3) := x_ins (j := 17) kk86 ia86 rfl
theorem i86_32 {xs : List Int32} : xtI (xTa xs) 86 32 = some (.iinc 2 1, 3) := x_ins (j := 18) kk86 ia86 rfl
theorem i86_35 {xs : List Int32} : xtI (xTa xs) 86 35 = some (.goto (-31), 3) := x_ins (j := 19) kk86 ia86 rfl
theorem i86_38 {xs : List Int32} : xtI (xTa xs) 86 38 = some (.iload_n 1, 1) := x_ins (j := 20) kk86 ia86 rfl
theorem i86_39 {xs : List Int32} : xtI (xTa xs) 86 39 = some (.ireturn, 1) := x_ins (j := 21) kk86 ia86 rfl
theorem kk87 : xK0.getD 87 [] = k87 := rfl
set_option maxRecDepth 100000 in
theorem ia87 : (k87.all fun e => decide (k87.lookup e.1 = some e.2)) = true := by decide +kernel
theorem i87_0 {xs : List Int32} : xtI (xTa xs) 87 0 = some (.aload_n 0, 1) := x_ins (j := 0) kk87 ia87 rfl
theorem i87_1 {xs : List Int32} : xtI (xTa xs) 87 1 = some (.aconst_null, 1) := x_ins (j := 1) kk87 ia87 rfl
theorem i87_2 {xs : List Int32} : xtI (xTa xs) 87 2 = some (.aload_n 1, 1) := x_ins (j := 2) kk87 ia87 rfl
theorem i87_3 {xs : List Int32} : xtI (xTa xs) 87 3 = some (.iload_n 2, 1) := x_ins (j := 3) kk87 ia87 rfl
theorem i87_4 {xs : List Int32} : xtI (xTa xs) 87 4 = some (.iload_n 3, 1) := x_ins (j := 4) kk87 ia87 rfl
theorem i87_5 {xs : List Int32} : xtI (xTa xs) 87 5 = some (.invokevirtual 52, 3) := x_ins (j := 5) kk87 ia87 rfl
theorem i87_8 {xs : List Int32} : xtI (xTa xs) 87 8 = some (.areturn, 1) := x_ins (j := 6) kk87 ia87 rfl
theorem kk88 : xK0.getD 88 [] = k88 := rfl
set_option maxRecDepth 100000 in
theorem ia88 : (k88.all fun e => decide (k88.lookup e.1 = some e.2)) = true := by decide +kernel
theorem i88_0 {xs : List Int32} : xtI (xTa xs) 88 0 = some (.iconst 0, 1) := x_ins (j := 0) kk88 ia88 rfl
theorem i88_1 {xs : List Int32} : xtI (xTa xs) 88 1 = some (.istore 5, 2) := x_ins (j := 1) kk88 ia88 rfl
theorem i88_3 {xs : List Int32} : xtI (xTa xs) 88 3 = some (.iload 5, 2) := x_ins (j := 2) kk88 ia88 rfl
theorem i88_5 {xs : List Int32} : xtI (xTa xs) 88 5 = some (.aload_n 0, 1) := x_ins (j := 3) kk88 ia88 rfl
theorem i88_6 {xs : List Int32} : xtI (xTa xs) 88 6 = some (.getfield 17, 3) := x_ins (j := 4) kk88 ia88 rfl
theorem i88_9 {xs : List Int32} : xtI (xTa xs) 88 9 = some (.if_icmp .ge 50, 3) := x_ins (j := 5) kk88 ia88 rfl
theorem i88_12 {xs : List Int32} : xtI (xTa xs) 88 12 = some (.aload_n 0, 1) := x_ins (j := 6) kk88 ia88 rfl
theorem i88_13 {xs : List Int32} : xtI (xTa xs) 88 13 = some (.getfield 11, 3) := x_ins (j := 7) kk88 ia88 rfl
theorem i88_16 {xs : List Int32} : xtI (xTa xs) 88 16 = some (.iload 5, 2) := x_ins (j := 8) kk88 ia88 rfl
theorem i88_18 {xs : List Int32} : xtI (xTa xs) 88 18 = some (.aaload, 1) := x_ins (j := 9) kk88 ia88 rfl
theorem i88_19 {xs : List Int32} : xtI (xTa xs) 88 19 = some (.astore 6, 2) := x_ins (j := 10) kk88 ia88 rfl
theorem i88_21 {xs : List Int32} : xtI (xTa xs) 88 21 = some (.aload 6, 2) := x_ins (j := 11) kk88 ia88 rfl
theorem i88_23 {xs : List Int32} : xtI (xTa xs) 88 23 = some (.ifnull 30, 3) := x_ins (j := 12) kk88 ia88 rfl
theorem i88_26 {xs : List Int32} : xtI (xTa xs) 88 26 = some (.aload 6, 2) := x_ins (j := 13) kk88 ia88 rfl
theorem i88_28 {xs : List Int32} : xtI (xTa xs) 88 28 = some (.getfield 56, 3) := x_ins (j := 14) kk88 ia88 rfl
theorem i88_31 {xs : List Int32} : xtI (xTa xs) 88 31 = some (.aload_n 1, 1) := x_ins (j := 15) kk88 ia88 rfl
theorem i88_32 {xs : List Int32} : xtI (xTa xs) 88 32 = some (.if_acmp .ne 21, 3) := x_ins (j := 16) kk88 ia88 rfl
theorem i88_35 {xs : List Int32} : xtI (xTa xs) 88 35 = some (.aload 6, 2) := x_ins (j := 17) kk88 ia88 rfl
theorem i88_37 {xs : List Int32} : xtI (xTa xs) 88 37 = some (.getfield 24, 3) := x_ins (j := 18) kk88 ia88 rfl
theorem i88_40 {xs : List Int32} : xtI (xTa xs) 88 40 = some (.aload_n 2, 1) := x_ins (j := 19) kk88 ia88 rfl
theorem i88_41 {xs : List Int32} : xtI (xTa xs) 88 41 = some (.iload_n 3, 1) := x_ins (j := 20) kk88 ia88 rfl
theorem i88_42 {xs : List Int32} : xtI (xTa xs) 88 42 = some (.iload 4, 2) := x_ins (j := 21) kk88 ia88 rfl
theorem i88_44 {xs : List Int32} : xtI (xTa xs) 88 44 = some (.invokevirtual 60, 3) := x_ins (j := 22) kk88 ia88 rfl
theorem i88_47 {xs : List Int32} : xtI (xTa xs) 88 47 = some (.ifCond .eq 6, 3) := x_ins (j := 23) kk88 ia88 rfl
theorem i88_50 {xs : List Int32} : xtI (xTa xs) 88 50 = some (.aload 6, 2) := x_ins (j := 24) kk88 ia88 rfl
theorem i88_52 {xs : List Int32} : xtI (xTa xs) 88 52 = some (.areturn, 1) := x_ins (j := 25) kk88 ia88 rfl
theorem i88_53 {xs : List Int32} : xtI (xTa xs) 88 53 = some (.iinc 5 1, 3) := x_ins (j := 26) kk88 ia88 rfl
theorem i88_56 {xs : List Int32} : xtI (xTa xs) 88 56 = some (.goto (-53), 3) := x_ins (j := 27) kk88 ia88 rfl
theorem i88_59 {xs : List Int32} : xtI (xTa xs) 88 59 = some (.aconst_null, 1) := x_ins (j := 28) kk88 ia88 rfl
theorem i88_60 {xs : List Int32} : xtI (xTa xs) 88 60 = some (.areturn, 1) := x_ins (j := 29) kk88 ia88 rfl
theorem kk89 : xK0.getD 89 [] = k89 := rfl
set_option maxRecDepth 100000 in
theorem ia89 : (k89.all fun e => decide (k89.lookup e.1 = some e.2)) = true := by decide +kernel
theorem i89_0 {xs : List Int32} : xtI (xTa xs) 89 0 = some (.aload_n 1, 1) := x_ins (j := 0) kk89 ia89 rfl
theorem i89_1 {xs : List Int32} : xtI (xTa xs) 89 1 = some (.astore 5, 2) := x_ins (j := 1) kk89 ia89 rfl
theorem i89_3 {xs : List Int32} : xtI (xTa xs) 89 3 = some (.iconst 0, 1) := x_ins (j := 2) kk89 ia89 rfl
theorem i89_4 {xs : List Int32} : xtI (xTa xs) 89 4 = some (.istore 6, 2) := x_ins (j := 3) kk89 ia89 rfl
theorem i89_6 {xs : List Int32} : xtI (xTa xs) 89 6 = some (.iload 6, 2) := x_ins (j := 4) kk89 ia89 rfl
theorem i89_8 {xs : List Int32} : xtI (xTa xs) 89 8 = some (.bipush 40, 2) := x_ins (j := 5) kk89 ia89 rfl
theorem i89_10 {xs : List Int32} : xtI (xTa xs) 89 10 = some (.if_icmp .ge 41, 3) := x_ins (j := 6) kk89 ia89 rfl
theorem i89_13 {xs : List Int32} : xtI (xTa xs) 89 13 = some (.aload 5, 2) := x_ins (j := 7) kk89 ia89 rfl
theorem i89_15 {xs : List Int32} : xtI (xTa xs) 89 15 = some (.ifnull 36, 3) := x_ins (j := 8) kk89 ia89 rfl
theorem i89_18 {xs : List Int32} : xtI (xTa xs) 89 18 = some (.aload_n 0, 1) := x_ins (j := 9) kk89 ia89 rfl
theorem i89_19 {xs : List Int32} : xtI (xTa xs) 89 19 = some (.aload 5, 2) := x_ins (j := 10) kk89 ia89 rfl
theorem i89_21 {xs : List Int32} : xtI (xTa xs) 89 21 = some (.aload_n 2, 1) := x_ins (j := 11) kk89 ia89 rfl
theorem i89_22 {xs : List Int32} : xtI (xTa xs) 89 22 = some (.iload_n 3, 1) := x_ins (j := 12) kk89 ia89 rfl
theorem i89_23 {xs : List Int32} : xtI (xTa xs) 89 23 = some (.iload 4, 2) := x_ins (j := 13) kk89 ia89 rfl
theorem i89_25 {xs : List Int32} : xtI (xTa xs) 89 25 = some (.invokevirtual 52, 3) := x_ins (j := 14) kk89 ia89 rfl
theorem i89_28 {xs : List Int32} : xtI (xTa xs) 89 28 = some (.astore 7, 2) := x_ins (j := 15) kk89 ia89 rfl
theorem i89_30 {xs : List Int32} : xtI (xTa xs) 89 30 = some (.aload 7, 2) := x_ins (j := 16) kk89 ia89 rfl
theorem i89_32 {xs : List Int32} : xtI (xTa xs) 89 32 = some (.ifnull 6, 3) := x_ins (j := 17) kk89 ia89 rfl
theorem i89_35 {xs : List Int32} : xtI (xTa xs) 89 35 = some (.aload 7, 2) := x_ins (j := 18) kk89 ia89 rfl
theorem i89_37 {xs : List Int32} : xtI (xTa xs) 89 37 = some (.areturn, 1) := x_ins (j := 19) kk89 ia89 rfl
theorem i89_38 {xs : List Int32} : xtI (xTa xs) 89 38 = some (.aload 5, 2) := x_ins (j := 20) kk89 ia89 rfl
theorem i89_40 {xs : List Int32} : xtI (xTa xs) 89 40 = some (.getfield 64, 3) := x_ins (j := 21) kk89 ia89 rfl
theorem i89_43 {xs : List Int32} : xtI (xTa xs) 89 43 = some (.astore 5, 2) := x_ins (j := 22) kk89 ia89 rfl
theorem i89_45 {xs : List Int32} : xtI (xTa xs) 89 45 = some (.iinc 6 1, 3) := x_ins (j := 23) kk89 ia89 rfl
theorem i89_48 {xs : List Int32} : xtI (xTa xs) 89 48 = some (.goto (-42), 3) := x_ins (j := 24) kk89 ia89 rfl
theorem i89_51 {xs : List Int32} : xtI (xTa xs) 89 51 = some (.aconst_null, 1) := x_ins (j := 25) kk89 ia89 rfl
theorem i89_52 {xs : List Int32} : xtI (xTa xs) 89 52 = some (.areturn, 1) := x_ins (j := 26) kk89 ia89 rfl
theorem kk90 : xK0.getD 90 [] = k90 := rfl
set_option maxRecDepth 100000 in
theorem ia90 : (k90.all fun e => decide (k90.lookup e.1 = some e.2)) = true := by decide +kernel
theorem i90_0 {xs : List Int32} : xtI (xTa xs) 90 0 = some (.aload_n 1, 1) := x_ins (j := 0) kk90 ia90 rfl
theorem i90_1 {xs : List Int32} : xtI (xTa xs) 90 1 = some (.getfield 56, 3) := x_ins (j := 1) kk90 ia90 rfl
theorem i90_4 {xs : List Int32} : xtI (xTa xs) 90 4 = some (.ifnonnull 5, 3) := x_ins (j := 2) kk90 ia90 rfl
theorem i90_7 {xs : List Int32} : xtI (xTa xs) 90 7 = some (.aconst_null, 1) := x_ins (j := 3) kk90 ia90 rfl
theorem i90_8 {xs : List Int32} : xtI (xTa xs) 90 8 = some (.areturn, 1) := x_ins (j := 4) kk90 ia90 rfl
theorem i90_9 {xs : List Int32} : xtI (xTa xs) 90 9 = some (.aload_n 0, 1) := x_ins (j := 5) kk90 ia90 rfl
theorem i90_10 {xs : List Int32} : xtI (xTa xs) 90 10 = some (.aload_n 1, 1) := x_ins (j := 6) kk90 ia90 rfl
theorem i90_11 {xs : List Int32} : xtI (xTa xs) 90 11 = some (.getfield 56, 3) := x_ins (j := 7) kk90 ia90 rfl
theorem i90_14 {xs : List Int32} : xtI (xTa xs) 90 14 = some (.getfield 64, 3) := x_ins (j := 8) kk90 ia90 rfl
theorem i90_17 {xs : List Int32} : xtI (xTa xs) 90 17 = some (.aload_n 1, 1) := x_ins (j := 9) kk90 ia90 rfl
theorem i90_18 {xs : List Int32} : xtI (xTa xs) 90 18 = some (.getfield 24, 3) := x_ins (j := 10) kk90 ia90 rfl
theorem i90_21 {xs : List Int32} : xtI (xTa xs) 90 21 = some (.iconst 0, 1) := x_ins (j := 11) kk90 ia90 rfl
theorem i90_22 {xs : List Int32} : xtI (xTa xs) 90 22 = some (.aload_n 1, 1) := x_ins (j := 12) kk90 ia90 rfl
theorem i90_23 {xs : List Int32} : xtI (xTa xs) 90 23 = some (.getfield 24, 3) := x_ins (j := 13) kk90 ia90 rfl
theorem i90_26 {xs : List Int32} : xtI (xTa xs) 90 26 = some (.getfield 67, 3) := x_ins (j := 14) kk90 ia90 rfl
theorem i90_29 {xs : List Int32} : xtI (xTa xs) 90 29 = some (.invokevirtual 68, 3) := x_ins (j := 15) kk90 ia90 rfl
theorem i90_32 {xs : List Int32} : xtI (xTa xs) 90 32 = some (.areturn, 1) := x_ins (j := 16) kk90 ia90 rfl
theorem kk91 : xK0.getD 91 [] = k91 := rfl
set_option maxRecDepth 100000 in
theorem ia91 : (k91.all fun e => decide (k91.lookup e.1 = some e.2)) = true := by decide +kernel
theorem i91_0 {xs : List Int32} : xtI (xTa xs) 91 0 = some (.aload_n 1, 1) := x_ins (j := 0) kk91 ia91 rfl
theorem i91_1 {xs : List Int32} : xtI (xTa xs) 91 1 = some (.astore_n 2, 1) := x_ins (j := 1) kk91 ia91 rfl
theorem i91_2 {xs : List Int32} : xtI (xTa xs) 91 2 = some (.iconst 0, 1) := x_ins (j := 2) kk91 ia91 rfl
theorem i91_3 {xs : List Int32} : xtI (xTa xs) 91 3 = some (.istore_n 3, 1) := x_ins (j := 3) kk91 ia91 rfl
theorem i91_4 {xs : List Int32} : xtI (xTa xs) 91 4 = some (.iload_n 3, 1) := x_ins (j := 4) kk91 ia91 rfl
theorem i91_5 {xs : List Int32} : xtI (xTa xs) 91 5 = some (.bipush 40, 2) := x_ins (j := 5) kk91 ia91 rfl
theorem i91_7 {xs : List Int32} : xtI (xTa xs) 91 7 = some (.if_icmp .ge 28, 3) := x_ins (j := 6) kk91 ia91 rfl
theorem i91_10 {xs : List Int32} : xtI (xTa xs) 91 10 = some (.aload_n 2, 1) := x_ins (j := 7) kk91 ia91 rfl
theorem i91_11 {xs : List Int32} : xtI (xTa xs) 91 11 = some (.ifnull 24, 3) := x_ins (j := 8) kk91 ia91 rfl
theorem i91_14 {xs : List Int32} : xtI (xTa xs) 91 14 = some (.aload_n 2, 1) := x_ins (j := 9) kk91 ia91 rfl
theorem i91_15 {xs : List Int32} : xtI (xTa xs) 91 15 = some (.getfield 48, 3) := x_ins (j := 10) kk91 ia91 rfl
theorem i91_18 {xs : List Int32} : xtI (xTa xs) 91 18 = some (.ifCond .eq 5, 3) := x_ins (j := 11) kk91 ia91 rfl
theorem i91_21 {xs : List Int32} : xtI (xTa xs) 91 21 = some (.aload_n 2, 1) := x_ins (j := 12) kk91 ia91 rfl
theorem i91_22 {xs : List Int32} : xtI (xTa xs) 91 22 = some (.areturn, 1) := x_ins (j := 13) kk91 ia91 rfl
theorem i91_23 {xs : List Int32} : xtI (xTa xs) 91 23 = some (.aload_n 0, 1) := x_ins (j := 14) kk91 ia91 rfl
theorem i91_24 {xs : List Int32} : xtI (xTa xs) 91 24 = some (.aload_n 2, 1) := x_ins (j := 15) kk91 ia91 rfl
theorem i91_25 {xs : List Int32} : xtI (xTa xs) 91 25 = some (.invokevirtual 71, 3) := x_ins (j := 16) kk91 ia91 rfl
theorem i91_28 {xs : List Int32} : xtI (xTa xs) 91 28 = some (.astore_n 2, 1) := x_ins (j := 17) kk91 ia91 rfl
theorem i91_29 {xs : List Int32} : xtI (xTa xs) 91 29 = some (.iinc 3 1, 3) := x_ins (j := 18) kk91 ia91 rfl
theorem i91_32 {xs : List Int32} : xtI (xTa xs) 91 32 = some (.goto (-28), 3) := x_ins (j := 19) kk91 ia91 rfl
theorem i91_35 {xs : List Int32} : xtI (xTa xs) 91 35 = some (.aconst_null, 1) := x_ins (j := 20) kk91 ia91 rfl
theorem i91_36 {xs : List Int32} : xtI (xTa xs) 91 36 = some (.areturn, 1) := x_ins (j := 21) kk91 ia91 rfl
