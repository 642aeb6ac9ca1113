theorem kk141 : xK0.getD 141 [] = k141 := rfl
set_option maxRecDepth 100000 in
theorem ia141 : (k141.all fun e => decide (k141.lookup e.1 = some e.2)) = true := by decide +kernel
theorem i141_0 {xs : List Int32} : xtI (xTa xs) 141 0 = some (.iload_n 0, 1) := x_ins (j := 0) kk141 ia141 rfl
theorem i141_1 {xs : List Int32} : xtI (xTa xs) 141 1 = some (.iload_n 1, 1) := x_ins (j := 1) kk141 ia141 rfl
theorem i141_2 {xs : List Int32} : xtI (xTa xs) 141 2 = some (.if_icmp .lt 12, 3) := x_ins (j := 2) kk141 ia141 rfl
theorem i141_5 {xs : List Int32} : xtI (xTa xs) 141 5 = some (.iload_n 0, 1) := x_ins (j := 3) kk141 ia141 rfl
theorem i141_6 {xs : List Int32} : xtI (xTa xs) 141 6 = some (.iload_n 2, 1) := x_ins (j := 4) kk141 ia141 rfl
theorem i141_7 {xs : List Int32} : xtI (xTa xs) 141 7 = some (.if_icmp .gt 7, 3) := x_ins (j := 5) kk141 ia141 rfl
theorem i141_10 {xs : List Int32} : xtI (xTa xs) 141 10 = some (.iconst 1, 1) := x_ins (j := 6) kk141 ia141 rfl
theorem i141_11 {xs : List Int32} : xtI (xTa xs) 141 11 = some (.goto 4, 3) := x_ins (j := 7) kk141 ia141 rfl
theorem i141_14 {xs : List Int32} : xtI (xTa xs) 141 14 = some (.iconst 0, 1) := x_ins (j := 8) kk141 ia141 rfl
theorem i141_15 {xs : List Int32} : xtI (xTa xs) 141 15 = some (.ireturn, 1) := x_ins (j := 9) kk141 ia141 rfl
theorem kk142 : xK0.getD 142 [] = k142 := rfl
set_option maxRecDepth 100000 in
theorem ia142 : (k142.all fun e => decide (k142.lookup e.1 = some e.2)) = true := by decide +kernel
theorem i142_0 {xs : List Int32} : xtI (xTa xs) 142 0 = some (.bipush 24, 2) := x_ins (j := 0) kk142 ia142 rfl
theorem i142_2 {xs : List Int32} : xtI (xTa xs) 142 2 = some (.istore_n 2, 1) := x_ins (j := 1) kk142 ia142 rfl
theorem i142_3 {xs : List Int32} : xtI (xTa xs) 142 3 = some (.iload_n 2, 1) := x_ins (j := 2) kk142 ia142 rfl
theorem i142_4 {xs : List Int32} : xtI (xTa xs) 142 4 = some (.ifCond .lt 35, 3) := x_ins (j := 3) kk142 ia142 rfl
theorem i142_7 {xs : List Int32} : xtI (xTa xs) 142 7 = some (.aload_n 0, 1) := x_ins (j := 4) kk142 ia142 rfl
theorem i142_8 {xs : List Int32} : xtI (xTa xs) 142 8 = some (.getfield 9, 3) := x_ins (j := 5) kk142 ia142 rfl
theorem i142_11 {xs : List Int32} : xtI (xTa xs) 142 11 = some (.aload_n 0, 1) := x_ins (j := 6) kk142 ia142 rfl
theorem i142_12 {xs : List Int32} : xtI (xTa xs) 142 12 = some (.getfield 146, 3) := x_ins (j := 7) kk142 ia142 rfl
theorem i142_15 {xs : List Int32} : xtI (xTa xs) 142 15 = some (.iload_n 1, 1) := x_ins (j := 8) kk142 ia142 rfl
theorem i142_16 {xs : List Int32} : xtI (xTa xs) 142 16 = some (.iload_n 2, 1) := x_ins (j := 9) kk142 ia142 rfl
theorem i142_17 {xs : List Int32} : xtI (xTa xs) 142 17 = some (.ishr, 1) := x_ins (j := 10) kk142 ia142 rfl
theorem i142_18 {xs : List Int32} : xtI (xTa xs) 142 18 = some (.sipush 255, 3) := x_ins (j := 11) kk142 ia142 rfl
theorem i142_21 {xs : List Int32} : xtI (xTa xs) 142 21 = some (.iand, 1) := x_ins (j := 12) kk142 ia142 rfl
theorem i142_22 {xs : List Int32} : xtI (xTa xs) 142 22 = some (.iastore, 1) := x_ins (j := 13) kk142 ia142 rfl
theorem i142_23 {xs : List Int32} : xtI (xTa xs) 142 23 = some (.aload_n 0, 1) := x_ins (j := 14) kk142 ia142 rfl
theorem i142_24 {xs : List Int32} : xtI (xTa xs) 142 24 = some (.dup, 1) := x_ins (j := 15) kk142 ia142 rfl
theorem i142_25 {xs : List Int32} : xtI (xTa xs) 142 25 = some (.getfield 146, 3) := x_ins (j := 16) kk142 ia142 rfl
theorem i142_28 {xs : List Int32} : xtI (xTa xs) 142 28 = some (.iconst 1, 1) := x_ins (j := 17) kk142 ia142 rfl
theorem i142_29 {xs : List Int32} : xtI (xTa xs) 142 29 = some (.iadd, 1) := x_ins (j := 18) kk142 ia142 rfl
theorem i142_30 {xs : List Int32} : xtI (xTa xs) 142 30 = some (.putfield 146, 3) := x_ins (j := 19) kk142 ia142 rfl
theorem i142_33 {xs : List Int32} : xtI (xTa xs) 142 33 = some (.iinc 2 (-8), 3) := x_ins (j := 20) kk142 ia142 rfl
theorem i142_36 {xs : List Int32} : xtI (xTa xs) 142 36 = some (.goto (-33), 3) := x_ins (j := 21) kk142 ia142 rfl
theorem i142_39 {xs : List Int32} : xtI (xTa xs) 142 39 = some (.return_, 1) := x_ins (j := 22) kk142 ia142 rfl
theorem kk143 : xK0.getD 143 [] = k143 := rfl
set_option maxRecDepth 100000 in
theorem ia143 : (k143.all fun e => decide (k143.lookup e.1 = some e.2)) = true := by decide +kernel
theorem i143_0 {xs : List Int32} : xtI (xTa xs) 143 0 = some (.aload_n 0, 1) := x_ins (j := 0) kk143 ia143 rfl
theorem i143_1 {xs : List Int32} : xtI (xTa xs) 143 1 = some (.getfield 146, 3) := x_ins (j := 1) kk143 ia143 rfl
theorem i143_4 {xs : List Int32} : xtI (xTa xs) 143 4 = some (.bipush 20, 2) := x_ins (j := 2) kk143 ia143 rfl
theorem i143_6 {xs : List Int32} : xtI (xTa xs) 143 6 = some (.iadd, 1) := x_ins (j := 3) kk143 ia143 rfl
theorem i143_7 {xs : List Int32} : xtI (xTa xs) 143 7 = some (.sipush 600, 3) := x_ins (j := 4) kk143 ia143 rfl
theorem i143_10 {xs : List Int32} : xtI (xTa xs) 143 10 = some (.if_icmp .le 6, 3) := x_ins (j := 5) kk143 ia143 rfl
theorem i143_13 {xs : List Int32} : xtI (xTa xs) 143 13 = some (.bipush (-3), 2) := x_ins (j := 6) kk143 ia143 rfl
theorem i143_15 {xs : List Int32} : xtI (xTa xs) 143 15 = some (.ireturn, 1) := x_ins (j := 7) kk143 ia143 rfl
theorem i143_16 {xs : List Int32} : xtI (xTa xs) 143 16 = some (.aload_n 0, 1) := x_ins (j := 8) kk143 ia143 rfl
theorem i143_17 {xs : List Int32} : xtI (xTa xs) 143 17 = some (.iload_n 1, 1) := x_ins (j := 9) kk143 ia143 rfl
theorem i143_18 {xs : List Int32} : xtI (xTa xs) 143 18 = some (.invokevirtual 150, 3) := x_ins (j := 10) kk143 ia143 rfl
theorem i143_21 {xs : List Int32} : xtI (xTa xs) 143 21 = some (.aload_n 0, 1) := x_ins (j := 11) kk143 ia143 rfl
theorem i143_22 {xs : List Int32} : xtI (xTa xs) 143 22 = some (.iload_n 2, 1) := x_ins (j := 12) kk143 ia143 rfl
theorem i143_23 {xs : List Int32} : xtI (xTa xs) 143 23 = some (.invokevirtual 150, 3) := x_ins (j := 13) kk143 ia143 rfl
theorem i143_26 {xs : List Int32} : xtI (xTa xs) 143 26 = some (.aload_n 0, 1) := x_ins (j := 14) kk143 ia143 rfl
theorem i143_27 {xs : List Int32} : xtI (xTa xs) 143 27 = some (.iload_n 3, 1) := x_ins (j := 15) kk143 ia143 rfl
theorem i143_28 {xs : List Int32} : xtI (xTa xs) 143 28 = some (.invokevirtual 150, 3) := x_ins (j := 16) kk143 ia143 rfl
theorem i143_31 {xs : List Int32} : xtI (xTa xs) 143 31 = some (.aload_n 0, 1) := x_ins (j := 17) kk143 ia143 rfl
theorem i143_32 {xs : List Int32} : xtI (xTa xs) 143 32 = some (.iload 4, 2) := x_ins (j := 18) kk143 ia143 rfl
theorem i143_34 {xs : List Int32} : xtI (xTa xs) 143 34 = some (.invokevirtual 150, 3) := x_ins (j := 19) kk143 ia143 rfl
theorem i143_37 {xs : List Int32} : xtI (xTa xs) 143 37 = some (.aload_n 0, 1) := x_ins (j := 20) kk143 ia143 rfl
theorem i143_38 {xs : List Int32} : xtI (xTa xs) 143 38 = some (.iload 5, 2) := x_ins (j := 21) kk143 ia143 rfl
theorem i143_40 {xs : List Int32} : xtI (xTa xs) 143 40 = some (.invokevirtual 150, 3) := x_ins (j := 22) kk143 ia143 rfl
theorem i143_43 {xs : List Int32} : xtI (xTa xs) 143 43 = some (.aload_n 0, 1) := x_ins (j := 23) kk143 ia143 rfl
theorem i143_44 {xs : List Int32} : xtI (xTa xs) 143 44 = some (.getfield 146, 3) := x_ins (j := 24) kk143 ia143 rfl
theorem i143_47 {xs : List Int32} : xtI (xTa xs) 143 47 = some (.ireturn, 1) := x_ins (j := 25) kk143 ia143 rfl
theorem kk144 : xK0.getD 144 [] = k144 := rfl
set_option maxRecDepth 100000 in
theorem ia144 : (k144.all fun e => decide (k144.lookup e.1 = some e.2)) = true := by decide +kernel
theorem i144_0 {xs : List Int32} : xtI (xTa xs) 144 0 = some (.iload_n 1, 1) := x_ins (j := 0) kk144 ia144 rfl
theorem i144_1 {xs : List Int32} : xtI (xTa xs) 144 1 = some (.iconst 0, 1) := x_ins (j := 1) kk144 ia144 rfl
theorem i144_2 {xs : List Int32} : xtI (xTa xs) 144 2 = some (.aload_n 0, 1) := x_ins (j := 2) kk144 ia144 rfl
theorem i144_3 {xs : List Int32} : xtI (xTa xs) 144 3 = some (.getfield 146, 3) := x_ins (j := 3) kk144 ia144 rfl
theorem i144_6 {xs : List Int32} : xtI (xTa xs) 144 6 = some (.invokestatic 154, 3) := x_ins (j := 4) kk144 ia144 rfl
theorem i144_9 {xs : List Int32} : xtI (xTa xs) 144 9 = some (.ifCond .ne 5, 3) := x_ins (j := 5) kk144 ia144 rfl
theorem i144_12 {xs : List Int32} : xtI (xTa xs) 144 12 = some (.iconst (-1), 1) := x_ins (j := 6) kk144 ia144 rfl
theorem i144_13 {xs : List Int32} : xtI (xTa xs) 144 13 = some (.ireturn, 1) := x_ins (j := 7) kk144 ia144 rfl
theorem i144_14 {xs : List Int32} : xtI (xTa xs) 144 14 = some (.aload_n 0, 1) := x_ins (j := 8) kk144 ia144 rfl
theorem i144_15 {xs : List Int32} : xtI (xTa xs) 144 15 = some (.getfield 146, 3) := x_ins (j := 9) kk144 ia144 rfl
theorem i144_18 {xs : List Int32} : xtI (xTa xs) 144 18 = some (.istore_n 2, 1) := x_ins (j := 10) kk144 ia144 rfl
theorem i144_19 {xs : List Int32} : xtI (xTa xs) 144 19 = some (.aload_n 0, 1) := x_ins (j := 11) kk144 ia144 rfl
theorem i144_20 {xs : List Int32} : xtI (xTa xs) 144 20 = some (.iload_n 1, 1) := x_ins (j := 12) kk144 ia144 rfl
theorem i144_21 {xs : List Int32} : xtI (xTa xs) 144 21 = some (.putfield 146, 3) := x_ins (j := 13) kk144 ia144 rfl
theorem i144_24 {xs : List Int32} : xtI (xTa xs) 144 24 = some (.iload_n 2, 1) := x_ins (j := 14) kk144 ia144 rfl
theorem i144_25 {xs : List Int32} : xtI (xTa xs) 144 25 = some (.ireturn, 1) := x_ins (j := 15) kk144 ia144 rfl
theorem kk145 : xK0.getD 145 [] = k145 := rfl
set_option maxRecDepth 100000 in
theorem ia145 : (k145.all fun e => decide (k145.lookup e.1 = some e.2)) = true := by decide +kernel
theorem i145_0 {xs : List Int32} : xtI (xTa xs) 145 0 = some (.iload_n 0, 1) := x_ins (j := 0) kk145 ia145 rfl
theorem i145_1 {xs : List Int32} : xtI (xTa xs) 145 1 = some (.bipush 65, 2) := x_ins (j := 1) kk145 ia145 rfl
theorem i145_3 {xs : List Int32} : xtI (xTa xs) 145 3 = some (.if_icmp .lt 13, 3) := x_ins (j := 2) kk145 ia145 rfl
theorem i145_6 {xs : List Int32} : xtI (xTa xs) 145 6 = some (.iload_n 0, 1) := x_ins (j := 3) kk145 ia145 rfl
theorem i145_7 {xs : List Int32} : xtI (xTa xs) 145 7 = some (.bipush 90, 2) := x_ins (j := 4) kk145 ia145 rfl
theorem i145_9 {xs : List Int32} : xtI (xTa xs) 145 9 = some (.if_icmp .gt 7, 3) := x_ins (j := 5) kk145 ia145 rfl
theorem i145_12 {xs : List Int32} : xtI (xTa xs) 145 12 = some (.iconst 1, 1) := x_ins (j := 6) kk145 ia145 rfl
theorem i145_13 {xs : List Int32} : xtI (xTa xs) 145 13 = some (.goto 4, 3) := x_ins (j := 7) kk145 ia145 rfl
theorem i145_16 {xs : List Int32} : xtI (xTa xs) 145 16 = some (.iconst 0, 1) := x_ins (j := 8) kk145 ia145 rfl
theorem i145_17 {xs : List Int32} : xtI (xTa xs) 145 17 = some (.ireturn, 1) := x_ins (j := 9) kk145 ia145 rfl
theorem kk146 : xK0.getD 146 [] = k146 := rfl
set_option maxRecDepth 100000 in
theorem ia146 : (k146.all fun e => decide (k146.lookup e.1 = some e.2)) = true := by decide +kernel
theorem i146_0 {xs : List Int32} : xtI (xTa xs) 146 0 = some (.iload_n 0, 1) := x_ins (j := 0) kk146 ia146 rfl
theorem i146_1 {xs : List Int32} : xtI (xTa xs) 146 1 = some (.bipush 97, 2) := x_ins (j := 1) kk146 ia146 rfl
theorem i146_3 {xs : List Int32} : xtI (xTa xs) 146 3 = some (.if_icmp .lt 13, 3) := x_ins (j := 2) kk146 ia146 rfl
theorem i146_6 {xs : List Int32} : xtI (xTa xs) 146 6 = some (.iload_n 0, 1) := x_ins (j := 3) kk146 ia146 rfl
theorem i146_7 {xs : List Int32} : xtI (xTa xs) 146 7 = some (.bipush 122, 2) := x_ins (j := 4) kk146 ia146 rfl
theorem i146_9 {xs : List Int32} : xtI (xTa xs) 146 9 = some (.if_icmp .gt 7, 3) := x_ins (j := 5) kk146 ia146 rfl
theorem i146_12 {xs : List Int32} : xtI (xTa xs) 146 12 = some (.iconst 1, 1) := x_ins (j := 6) kk146 ia146 rfl
theorem i146_13 {xs : List Int32} : xtI (xTa xs) 146 13 = some (.goto 4, 3) := x_ins (j := 7) kk146 ia146 rfl
theorem i146_16 {xs : List Int32} : xtI (xTa xs) 146 16 = some (.iconst 0, 1) := x_ins (j := 8) kk146 ia146 rfl
theorem i146_17 {xs : List Int32} : xtI (xTa xs) 146 17 = some (.ireturn, 1) := x_ins (j := 9) kk146 ia146 rfl
theorem kk147 : xK0.getD 147 [] = k147 := rfl
set_option maxRecDepth 100000 in
theorem ia147 : (k147.all fun e => decide (k147.lookup e.1 = some e.2)) = true := by decide +kernel
theorem i147_0 {xs : List Int32} : xtI (xTa xs) 147 0 = some (.iload_n 0, 1) := x_ins (j := 0) kk147 ia147 rfl
theorem i147_1 {xs : List Int32} : xtI (xTa xs) 147 1 = some (.bipush 48, 2) := x_ins (j := 1) kk147 ia147 rfl
theorem i147_3 {xs : List Int32} : xtI (xTa xs) 147 3 = some (.if_icmp .lt 13, 3) := x_ins (j := 2) kk147 ia147 rfl
theorem i147_6 {xs : List Int32} : xtI (xTa xs) 147 6 = some (.iload_n 0, 1) := x_ins (j := 3) kk147 ia147 rfl
theorem i147_7 {xs : List Int32} : xtI (xTa xs) 147 7 = some (.bipush 57, 2) := x_ins (j := 4) kk147 ia147 rfl
theorem i147_9 {xs : List Int32} : xtI (xTa xs) 147 9 = some (.if_icmp .gt 7, 3) := x_ins (j := 5) kk147 ia147 rfl
theorem i147_12 {xs : List Int32} : xtI (xTa xs) 147 12 = some (.iconst 1, 1) := x_ins (j := 6) kk147 ia147 rfl
theorem i147_13 {xs : List Int32} : xtI (xTa xs) 147 13 = some (.goto 4, 3) := x_ins (j := 7) kk147 ia147 rfl
theorem i147_16 {xs : List Int32} : xtI (xTa xs) 147 16 = some (.iconst 0, 1) := x_ins (j := 8) kk147 ia147 rfl
theorem i147_17 {xs : List Int32} : xtI (xTa xs) 147 17 = some (.ireturn, 1) := x_ins (j := 9) kk147 ia147 rfl
theorem kk148 : xK0.getD 148 [] = k148 := rfl
set_option maxRecDepth 100000 in
theorem ia148 : (k148.all fun e => decide (k148.lookup e.1 = some e.2)) = true := by decide +kernel
theorem i148_0 {xs : List Int32} : xtI (xTa xs) 148 0 = some (.iload_n 1, 1) := x_ins (j := 0) kk148 ia148 rfl
theorem i148_1 {xs : List Int32} : xtI (xTa xs) 148 1 = some (.iconst 0, 1) := x_ins (j := 1) kk148 ia148 rfl
theorem i148_2 {xs : List Int32} : xtI (xTa xs) 148 2 = some (.aload_n 0, 1) := x_ins (j := 2) kk148 ia148 rfl
theorem i148_3 {xs : List Int32} : xtI (xTa xs) 148 3 = some (.getfield 158, 3) := x_ins (j := 3) kk148 ia148 rfl
theorem i148_6 {xs : List Int32} : xtI (xTa xs) 148 6 = some (.iconst 1, 1) := x_ins (j := 4) kk148 ia148 rfl
theorem i148_7 {xs : List Int32} : xtI (xTa xs) 148 7 = some (.isub, 1) := x_ins (j := 5) kk148 ia148 rfl
theorem i148_8 {xs : List Int32} : xtI (xTa xs) 148 8 = some (.invokestatic 154, 3) := x_ins (j := 6) kk148 ia148 rfl
theorem i148_11 {xs : List Int32} : xtI (xTa xs) 148 11 = some (.ireturn, 1) := x_ins (j := 7) kk148 ia148 rfl
theorem kk149 : xK0.getD 149 [] = k149 := rfl
set_option maxRecDepth 100000 in
theorem ia149 : (k149.all fun e => decide (k149.lookup e.1 = some e.2)) = true := by decide +kernel
theorem i149_0 {xs : List Int32} : xtI (xTa xs) 149 0 = some (.aload_n 0, 1) := x_ins (j := 0) kk149 ia149 rfl
theorem i149_1 {xs : List Int32} : xtI (xTa xs) 149 1 = some (.iload_n 1, 1) := x_ins (j := 1) kk149 ia149 rfl
theorem i149_2 {xs : List Int32} : xtI (xTa xs) 149 2 = some (.invokevirtual 161, 3) := x_ins (j := 2) kk149 ia149 rfl
theorem i149_5 {xs : List Int32} : xtI (xTa xs) 149 5 = some (.ifCond .eq 17, 3) := x_ins (j := 3) kk149 ia149 rfl
theorem i149_8 {xs : List Int32} : xtI (xTa xs) 149 8 = some (.aload_n 0, 1) := x_ins (j := 4) kk149 ia149 rfl
theorem i149_9 {xs : List Int32} : xtI (xTa xs) 149 9 = some (.getfield 13, 3) := x_ins (j := 5) kk149 ia149 rfl
theorem i149_12 {xs : List Int32} : xtI (xTa xs) 149 12 = some (.iload_n 1, 1) := x_ins (j := 6) kk149 ia149 rfl
theorem i149_13 {xs : List Int32} : xtI (xTa xs) 149 13 = some (.baload, 1) := x_ins (j := 7) kk149 ia149 rfl
theorem i149_14 {xs : List Int32} : xtI (xTa xs) 149 14 = some (.iload_n 2, 1) := x_ins (j := 8) kk149 ia149 rfl
theorem i149_15 {xs : List Int32} : xtI (xTa xs) 149 15 = some (.if_icmp .ne 7, 3) := x_ins (j := 9) kk149 ia149 rfl
theorem i149_18 {xs : List Int32} : xtI (xTa xs) 149 18 = some (.iconst 1, 1) := x_ins (j := 10) kk149 ia149 rfl
theorem i149_19 {xs : List Int32} : xtI (xTa xs) 149 19 = some (.goto 4, 3) := x_ins (j := 11) kk149 ia149 rfl
theorem i149_22 {xs : List Int32} : xtI (xTa xs) 149 22 = some (.iconst 0, 1) := x_ins (j := 12) kk149 ia149 rfl
theorem i149_23 {xs : List Int32} : xtI (xTa xs) 149 23 = some (.ireturn, 1) := x_ins (j := 13) kk149 ia149 rfl
theorem kk150 : xK0.getD 150 [] = k150 := rfl
set_option maxRecDepth 100000 in
theorem ia150 : (k150.all fun e => decide (k150.lookup e.1 = some e.2)) = true := by decide +kernel
theorem i150_0 {xs : List Int32} : xtI (xTa xs) 150 0 = some (.aload_n 0, 1) := x_ins (j := 0) kk150 ia150 rfl
theorem i150_1 {xs : List Int32} : xtI (xTa xs) 150 1 = some (.getfield 146, 3) := x_ins (j := 1) kk150 ia150 rfl
theorem i150_4 {xs : List Int32} : xtI (xTa xs) 150 4 = some (.iconst 1, 1) := x_ins (j := 2) kk150 ia150 rfl
theorem i150_5 {xs : List Int32} : xtI (xTa xs) 150 5 = some (.bipush 10, 2) := x_ins (j := 3) kk150 ia150 rfl
theorem i150_7 {xs : List Int32} : xtI (xTa xs) 150 7 = some (.invokestatic 154, 3) := x_ins (j := 4) kk150 ia150 rfl
theorem i150_10 {xs : List Int32} : xtI (xTa xs) 150 10 = some (.ifCond .eq 38, 3) := x_ins (j := 5) kk150 ia150 rfl
theorem i150_13 {xs : List Int32} : xtI (xTa xs) 150 13 = some (.iload_n 1, 1) := x_ins (j := 6) kk150 ia150 rfl
theorem i150_14 {xs : List Int32} : xtI (xTa xs) 150 14 = some (.ifCond .eq 18, 3) := x_ins (j := 7) kk150 ia150 rfl
theorem i150_17 {xs : List Int32} : xtI (xTa xs) 150 17 = some (.aload_n 0, 1) := x_ins (j := 8) kk150 ia150 rfl
theorem i150_18 {xs : List Int32} : xtI (xTa xs) 150 18 = some (.getfield 9, 3) := x_ins (j := 9) kk150 ia150 rfl
theorem i150_21 {xs : List Int32} : xtI (xTa xs) 150 21 = some (.iconst 0, 1) := x_ins (j := 10) kk150 ia150 rfl
theorem i150_22 {xs : List Int32} : xtI (xTa xs) 150 22 = some (.iaload, 1) := x_ins (j := 11) kk150 ia150 rfl
theorem i150_23 {xs : List Int32} : xtI (xTa xs) 150 23 = some (.invokestatic 165, 3) := x_ins (j := 12) kk150 ia150 rfl
theorem i150_26 {xs : List Int32} : xtI (xTa xs) 150 26 = some (.ifCond .eq 22, 3) := x_ins (j := 13) kk150 ia150 rfl
theorem i150_29 {xs : List Int32} : xtI (xTa xs) 150 29 = some (.goto 15, 3) := x_ins (j := 14) kk150 ia150 rfl
theorem i150_32 {xs : List Int32} : xtI (xTa xs) 150 32 = some (.aload_n 0, 1) := x_ins (j := 15) kk150 ia150 rfl
theorem i150_33 {xs : List Int32} : xtI (xTa xs) 150 33 = some (.getfield 9, 3) := x_ins (j := 16) kk150 ia150 rfl
theorem i150_36 {xs : List Int32} : xtI (xTa xs) 150 36 = some (.iconst 0, 1) := x_ins (j := 17) kk150 ia150 rfl
theorem i150_37 {xs : List Int32} : xtI (xTa xs) 150 37 = some (.iaload, 1) := x_ins (j := 18) kk150 ia150 rfl
theorem i150_38 {xs : List Int32} : xtI (xTa xs) 150 38 = some (.invokestatic 168, 3) := x_ins (j := 19) kk150 ia150 rfl
theorem i150_41 {xs : List Int32} : xtI (xTa xs) 150 41 = some (.ifCond .eq 7, 3) := x_ins (j := 20) kk150 ia150 rfl
theorem i150_44 {xs : List Int32} : xtI (xTa xs) 150 44 = some (.iconst 1, 1) := x_ins (j := 21) kk150 ia150 rfl
theorem i150_45 {xs : List Int32} : xtI (xTa xs) 150 45 = some (.goto 4, 3) := x_ins (j := 22) kk150 ia150 rfl
theorem i150_48 {xs : List Int32} : xtI (xTa xs) 150 48 = some (.iconst 0, 1) := x_ins (j := 23) kk150 ia150 rfl
theorem i150_49 {xs : List Int32} : xtI (xTa xs) 150 49 = some (.istore_n 2, 1) := x_ins (j := 24) kk150 ia150 rfl
theorem i150_50 {xs : List Int32} : xtI (xTa xs) 150 50 = some (.iconst 0, 1) := x_ins (j := 25) kk150 ia150 rfl
theorem i150_51 {xs : List Int32} : xtI (xTa xs) 150 51 = some (.istore_n 3, 1) := x_ins (j := 26) kk150 ia150 rfl
theorem i150_52 {xs : List Int32} : xtI (xTa xs) 150 52 = some (.iload_n 3, 1) := x_ins (j := 27) kk150 ia150 rfl
theorem i150_53 {xs : List Int32} : xtI (xTa xs) 150 53 = some (.aload_n 0, 1) := x_ins (j := 28) kk150 ia150 rfl
theorem i150_54 {xs : List Int32} : xtI (xTa xs) 150 54 = some (.getfield 146, 3) := x_ins (j := 29) kk150 ia150 rfl
theorem i150_57 {xs : List Int32} : xtI (xTa xs) 150 57 = some (.if_icmp .ge 55, 3) := x_ins (j := 30) kk150 ia150 rfl
theorem i150_60 {xs : List Int32} : xtI (xTa xs) 150 60 = some (.iload_n 2, 1) := x_ins (j := 31) kk150 ia150 rfl
theorem i150_61 {xs : List Int32} : xtI (xTa xs) 150 61 = some (.ifCond .eq 51, 3) := x_ins (j := 32) kk150 ia150 rfl
theorem i150_64 {xs : List Int32} : xtI (xTa xs) 150 64 = some (.aload_n 0, 1) := x_ins (j := 33) kk150 ia150 rfl
theorem i150_65 {xs : List Int32} : xtI (xTa xs) 150 65 = some (.getfield 9, 3) := x_ins (j := 34) kk150 ia150 rfl
theorem i150_68 {xs : List Int32} : xtI (xTa xs) 150 68 = some (.iload_n 3, 1) := x_ins (j := 35) kk150 ia150 rfl
theorem i150_69 {xs : List Int32} : xtI (xTa xs) 150 69 = some (.iaload, 1) := x_ins (j := 36) kk150 ia150 rfl
theorem i150_70 {xs : List Int32} : xtI (xTa xs) 150 70 = some (.invokestatic 165, 3) := x_ins (j := 37) kk150 ia150 rfl
theorem i150_73 {xs : List Int32} : xtI (xTa xs) 150 73 = some (.ifCond .ne 27, 3) := x_ins (j := 38) kk150 ia150 rfl
theorem i150_76 {xs : List Int32} : xtI (xTa xs) 150 76 = some (.aload_n 0, 1) := x_ins (j := 39) kk150 ia150 rfl
theorem i150_77 {xs : List Int32} : xtI (xTa xs) 150 77 = some (.getfield 9, 3) := x_ins (j := 40) kk150 ia150 rfl
theorem i150_80 {xs : List Int32} : xtI (xTa xs) 150 80 = some (.iload_n 3, 1) := x_ins (j := 41) kk150 ia150 rfl
theorem i150_81 {xs : List Int32} : xtI (xTa xs) 150 81 = some (.iaload, 1) := x_ins (j := 42) kk150 ia150 rfl
theorem i150_82 {xs : List Int32} : xtI (xTa xs) 150 82 = some (.invokestatic 168, 3) := x_ins (j := 43) kk150 ia150 rfl
theorem i150_85 {xs : List Int32} : xtI (xTa xs) 150 85 = some (.ifCond .ne 15, 3) := x_ins (j := 44) kk150 ia150 rfl
theorem i150_88 {xs : List Int32} : xtI (xTa xs) 150 88 = some (.aload_n 0, 1) := x_ins (j := 45) kk150 ia150 rfl
theorem i150_89 {xs : List Int32} : xtI (xTa xs) 150 89 = some (.getfield 9, 3) := x_ins (j := 46) kk150 ia150 rfl
theorem i150_92 {xs : List Int32} : xtI (xTa xs) 150 92 = some (.iload_n 3, 1) := x_ins (j := 47) kk150 ia150 rfl
theorem i150_93 {xs : List Int32} : xtI (xTa xs) 150 93 = some (.iaload, 1) := x_ins (j := 48) kk150 ia150 rfl
theorem i150_94 {xs : List Int32} : xtI (xTa xs) 150 94 = some (.invokestatic 171, 3) := x_ins (j := 49) kk150 ia150 rfl
theorem i150_97 {xs : List Int32} : xtI (xTa xs) 150 97 = some (.ifCond .eq 7, 3) := x_ins (j := 50) kk150 ia150 rfl
theorem i150_100 {xs : List Int32} : xtI (xTa xs) 150 100 = some (.iconst 1, 1) := x_ins (j := 51) kk150 ia150 rfl
theorem i150_101 {xs : List Int32} : xtI (xTa xs) 150 101 = some (.goto 4, 3) := x_ins (j := 52) kk150 ia150 rfl
theorem i150_104 {xs : List Int32} : xtI (xTa xs) 150 104 = some (.iconst 0, 1) := x_ins (j := 53) kk150 ia150 rfl
theorem i150_105 {xs : List Int32} : xtI (xTa xs) 150 105 = some (.istore_n 2, 1) := x_ins (j := 54) kk150 ia150 rfl
theorem i150_106 {xs : List Int32} : xtI (xTa xs) 150 106 = some (.iinc 3 1, 3) := x_ins (j := 55) kk150 ia150 rfl
theorem i150_109 {xs : List Int32} : xtI (xTa xs) 150 109 = some (.goto (-57), 3) := x_ins (j := 56) kk150 ia150 rfl
theorem i150_112 {xs : List Int32} : xtI (xTa xs) 150 112 = some (.iload_n 2, 1) := x_ins (j := 57) kk150 ia150 rfl
theorem i150_113 {xs : List Int32} : xtI (xTa xs) 150 113 = some (.ireturn, 1) := x_ins (j := 58) kk150 ia150 rfl
theorem kk151 : xK0.getD 151 [] = k151 := rfl
set_option maxRecDepth 100000 in
theorem ia151 : (k151.all fun e => decide (k151.lookup e.1 = some e.2)) = true := by decide +kernel
theorem i151_0 {xs : List Int32} : xtI (xTa xs) 151 0 = some (.iload_n 3, 1) := x_ins (j := 0) kk151 ia151 rfl
theorem i151_1 {xs : List Int32} : xtI (xTa xs) 151 1 = some (.aload_n 0, 1) := x_ins (j := 1) kk151 ia151 rfl
theorem i151_2 {xs : List Int32} : xtI (xTa xs) 151 2 = some (.getfield 146, 3) := x_ins (j := 2) kk151 ia151 rfl
theorem i151_5 {xs : List Int32} : xtI (xTa xs) 151 5 = some (.if_icmp .ne 7, 3) := x_ins (j := 3) kk151 ia151 rfl
theorem i151_8 {xs : List Int32} : xtI (xTa xs) 151 8 = some (.iconst 1, 1) := x_ins (j := 4) kk151 ia151 rfl
theorem i151_9 {xs : List Int32} : xtI (xTa xs) 151 9 = some (.goto 4, 3) := x_ins (j := 5) kk151 ia151 rfl
theorem i151_12 {xs : List Int32} : xtI (xTa xs) 151 12 = some (.iconst 0, 1) := x_ins (j := 6) kk151 ia151 rfl
theorem i151_13 {xs : List Int32} : xtI (xTa xs) 151 13 = some (.istore 4, 2) := x_ins (j := 7) kk151 ia151 rfl
theorem i151_15 {xs : List Int32} : xtI (xTa xs) 151 15 = some (.iconst 0, 1) := x_ins (j := 8) kk151 ia151 rfl
theorem i151_16 {xs : List Int32} : xtI (xTa xs) 151 16 = some (.istore 5, 2) := x_ins (j := 9) kk151 ia151 rfl
theorem i151_18 {xs : List Int32} : xtI (xTa xs) 151 18 = some (.iload 5, 2) := x_ins (j := 10) kk151 ia151 rfl
theorem i151_20 {xs : List Int32} : xtI (xTa xs) 151 20 = some (.iload_n 3, 1) := x_ins (j := 11) kk151 ia151 rfl
theorem i151_21 {xs : List Int32} : xtI (xTa xs) 151 21 = some (.if_icmp .ge 37, 3) := x_ins (j := 12) kk151 ia151 rfl
theorem i151_24 {xs : List Int32} : xtI (xTa xs) 151 24 = some (.iload 4, 2) := x_ins (j := 13) kk151 ia151 rfl
theorem i151_26 {xs : List Int32} : xtI (xTa xs) 151 26 = some (.ifCond .eq 32, 3) := x_ins (j := 14) kk151 ia151 rfl
theorem i151_29 {xs : List Int32} : xtI (xTa xs) 151 29 = some (.aload_n 1, 1) := x_ins (j := 15) kk151 ia151 rfl
theorem i151_30 {xs : List Int32} : xtI (xTa xs) 151 30 = some (.iload_n 2, 1) := x_ins (j := 16) kk151 ia151 rfl
theorem i151_31 {xs : List Int32} : xtI (xTa xs) 151 31 = some (.iload 5, 2) := x_ins (j := 17) kk151 ia151 rfl
theorem i151_33 {xs : List Int32} : xtI (xTa xs) 151 33 = some (.iadd, 1) := x_ins (j := 18) kk151 ia151 rfl
theorem i151_34 {xs : List Int32} : xtI (xTa xs) 151 34 = some (.iaload, 1) := x_ins (j := 19) kk151 ia151 rfl
theorem i151_35 {xs : List Int32} : xtI (xTa xs) 151 35 = some (.aload_n 0, 1) := x_ins (j := 20) kk151 ia151 rfl
theorem i151_36 {xs : List Int32} : xtI (xTa xs) 151 36 = some (.getfield 9, 3) := x_ins (j := 21) kk151 ia151 rfl
theorem i151_39 {xs : List Int32} : xtI (xTa xs) 151 39 = some (.iload 5, 2) := x_ins (j := 22) kk151 ia151 rfl
theorem i151_41 {xs : List Int32} : xtI (xTa xs) 151 41 = some (.iaload, 1) := x_ins (j := 23) kk151 ia151 rfl
theorem i151_42 {xs : List Int32} : xtI (xTa xs) 151 42 = some (.if_icmp .ne 7, 3) := x_ins (j := 24) kk151 ia151 rfl
theorem i151_45 {xs : List Int32} : xtI (xTa xs) 151 45 = some (.iconst 1, 1) := x_ins (j := 25) kk151 ia151 rfl
theorem i151_46 {xs : List Int32} : xtI (xTa xs) 151 46 = some (.goto 4, 3) := x_ins (j := 26) kk151 ia151 rfl
theorem i151_49 {xs : List Int32} : xtI (xTa xs) 151 49 = some (.iconst 0, 1) := x_ins (j := 27) kk151 ia151 rfl
theorem i151_50 {xs : List Int32} : xtI (xTa xs) 151 50 = some (.istore 4, 2) := x_ins (j := 28) kk151 ia151 rfl
theorem i151_52 {xs : List Int32} : xtI (xTa xs) 151 52 = some (.iinc 5 1, 3) := x_ins (j := 29) kk151 ia151 rfl
theorem i151_55 {xs : List Int32} : xtI (xTa xs) 151 55 = some (.goto (-37), 3) := x_ins (j := 30) kk151 ia151 rfl
theorem i151_58 {xs : List Int32} : xtI (xTa xs) 151 58 = some (.iload 4, 2) := x_ins (j := 31) kk151 ia151 rfl
theorem i151_60 {xs : List Int32} : xtI (xTa xs) 151 60 = some (.ireturn, 1) := x_ins (j := 32) kk151 ia151 rfl
theorem kk152 : xK0.getD 152 [] = k152 := rfl
set_option maxRecDepth 100000 in
theorem ia152 : (k152.all fun e => decide (k152.lookup e.1 = some e.2)) = true := by decide +kernel
theorem i152_0 {xs : List Int32} : xtI (xTa xs) 152 0 = some (.aload_n 0, 1) := x_ins (j := 0) kk152 ia152 rfl
theorem i152_1 {xs : List Int32} : xtI (xTa xs) 152 1 = some (.getfield 158, 3) := x_ins (j := 1) kk152 ia152 rfl
theorem i152_4 {xs : List Int32} : xtI (xTa xs) 152 4 = some (.istore 5, 2) := x_ins (j := 2) kk152 ia152 rfl
theorem i152_6 {xs : List Int32} : xtI (xTa xs) 152 6 = some (.aload_n 0, 1) := x_ins (j := 3) kk152 ia152 rfl
theorem i152_7 {xs : List Int32} : xtI (xTa xs) 152 7 = some (.dup, 1) := x_ins (j := 4) kk152 ia152 rfl
theorem i152_8 {xs : List Int32} : xtI (xTa xs) 152 8 = some (.getfield 158, 3) := x_ins (j := 5) kk152 ia152 rfl
theorem i152_11 {xs : List Int32} : xtI (xTa xs) 152 11 = some (.iconst 1, 1) := x_ins (j := 6) kk152 ia152 rfl
theorem i152_12 {xs : List Int32} : xtI (xTa xs) 152 12 = some (.iadd, 1) := x_ins (j := 7) kk152 ia152 rfl
theorem i152_13 {xs : List Int32} : xtI (xTa xs) 152 13 = some (.putfield 158, 3) := x_ins (j := 8) kk152 ia152 rfl
theorem i152_16 {xs : List Int32} : xtI (xTa xs) 152 16 = some (.aload_n 0, 1) := x_ins (j := 9) kk152 ia152 rfl
theorem i152_17 {xs : List Int32} : xtI (xTa xs) 152 17 = some (.getfield 13, 3) := x_ins (j := 10) kk152 ia152 rfl
theorem i152_20 {xs : List Int32} : xtI (xTa xs) 152 20 = some (.iload 5, 2) := x_ins (j := 11) kk152 ia152 rfl
theorem i152_22 {xs : List Int32} : xtI (xTa xs) 152 22 = some (.iload_n 1, 1) := x_ins (j := 12) kk152 ia152 rfl
theorem i152_23 {xs : List Int32} : xtI (xTa xs) 152 23 = some (.bastore, 1) := x_ins (j := 13) kk152 ia152 rfl
theorem i152_24 {xs : List Int32} : xtI (xTa xs) 152 24 = some (.aload_n 0, 1) := x_ins (j := 14) kk152 ia152 rfl
theorem i152_25 {xs : List Int32} : xtI (xTa xs) 152 25 = some (.getfield 17, 3) := x_ins (j := 15) kk152 ia152 rfl
theorem i152_28 {xs : List Int32} : xtI (xTa xs) 152 28 = some (.iload 5, 2) := x_ins (j := 16) kk152 ia152 rfl
theorem i152_30 {xs : List Int32} : xtI (xTa xs) 152 30 = some (.iload_n 2, 1) := x_ins (j := 17) kk152 ia152 rfl
theorem i152_31 {xs : List Int32} : xtI (xTa xs) 152 31 = some (.iastore, 1) := x_ins (j := 18) kk152 ia152 rfl
theorem i152_32 {xs : List Int32} : xtI (xTa xs) 152 32 = some (.aload_n 0, 1) := x_ins (j := 19) kk152 ia152 rfl
theorem i152_33 {xs : List Int32} : xtI (xTa xs) 152 33 = some (.getfield 20, 3) := x_ins (j := 20) kk152 ia152 rfl
theorem i152_36 {xs : List Int32} : xtI (xTa xs) 152 36 = some (.iload 5, 2) := x_ins (j := 21) kk152 ia152 rfl
theorem i152_38 {xs : List Int32} : xtI (xTa xs) 152 38 = some (.iload_n 3, 1) := x_ins (j := 22) kk152 ia152 rfl
theorem i152_39 {xs : List Int32} : xtI (xTa xs) 152 39 = some (.iastore, 1) := x_ins (j := 23) kk152 ia152 rfl
theorem i152_40 {xs : List Int32} : xtI (xTa xs) 152 40 = some (.aload_n 0, 1) := x_ins (j := 24) kk152 ia152 rfl
theorem i152_41 {xs : List Int32} : xtI (xTa xs) 152 41 = some (.getfield 23, 3) := x_ins (j := 25) kk152 ia152 rfl
theorem i152_44 {xs : List Int32} : xtI (xTa xs) 152 44 = some (.iload 5, 2) := x_ins (j := 26) kk152 ia152 rfl
theorem i152_46 {xs : List Int32} : xtI (xTa xs) 152 46 = some (.iload 4, 2) := x_ins (j := 27) kk152 ia152 rfl
theorem i152_48 {xs : List Int32} : xtI (xTa xs) 152 48 = some (.bastore, 1) := x_ins (j := 28) kk152 ia152 rfl
theorem i152_49 {xs : List Int32} : xtI (xTa xs) 152 49 = some (.aload_n 0, 1) := x_ins (j := 29) kk152 ia152 rfl
theorem i152_50 {xs : List Int32} : xtI (xTa xs) 152 50 = some (.getfield 32, 3) := x_ins (j := 30) kk152 ia152 rfl
theorem i152_53 {xs : List Int32} : xtI (xTa xs) 152 53 = some (.iload 5, 2) := x_ins (j := 31) kk152 ia152 rfl
theorem i152_55 {xs : List Int32} : xtI (xTa xs) 152 55 = some (.iconst 0, 1) := x_ins (j := 32) kk152 ia152 rfl
theorem i152_56 {xs : List Int32} : xtI (xTa xs) 152 56 = some (.iastore, 1) := x_ins (j := 33) kk152 ia152 rfl
theorem i152_57 {xs : List Int32} : xtI (xTa xs) 152 57 = some (.aload_n 0, 1) := x_ins (j := 34) kk152 ia152 rfl
theorem i152_58 {xs : List Int32} : xtI (xTa xs) 152 58 = some (.getfield 44, 3) := x_ins (j := 35) kk152 ia152 rfl
theorem i152_61 {xs : List Int32} : xtI (xTa xs) 152 61 = some (.iload 5, 2) := x_ins (j := 36) kk152 ia152 rfl
theorem i152_63 {xs : List Int32} : xtI (xTa xs) 152 63 = some (.iconst (-1), 1) := x_ins (j := 37) kk152 ia152 rfl
theorem i152_64 {xs : List Int32} : xtI (xTa xs) 152 64 = some (.iastore, 1) := x_ins (j := 38) kk152 ia152 rfl
theorem i152_65 {xs : List Int32} : xtI (xTa xs) 152 65 = some (.aload_n 0, 1) := x_ins (j := 39) kk152 ia152 rfl
theorem i152_66 {xs : List Int32} : xtI (xTa xs) 152 66 = some (.getfield 47, 3) := x_ins (j := 40) kk152 ia152 rfl
theorem i152_69 {xs : List Int32} : xtI (xTa xs) 152 69 = some (.iload 5, 2) := x_ins (j := 41) kk152 ia152 rfl
theorem i152_71 {xs : List Int32} : xtI (xTa xs) 152 71 = some (.iconst 0, 1) := x_ins (j := 42) kk152 ia152 rfl
theorem i152_72 {xs : List Int32} : xtI (xTa xs) 152 72 = some (.iastore, 1) := x_ins (j := 43) kk152 ia152 rfl
theorem i152_73 {xs : List Int32} : xtI (xTa xs) 152 73 = some (.aload_n 0, 1) := x_ins (j := 44) kk152 ia152 rfl
theorem i152_74 {xs : List Int32} : xtI (xTa xs) 152 74 = some (.getfield 50, 3) := x_ins (j := 45) kk152 ia152 rfl
theorem i152_77 {xs : List Int32} : xtI (xTa xs) 152 77 = some (.iload 5, 2) := x_ins (j := 46) kk152 ia152 rfl
theorem i152_79 {xs : List Int32} : xtI (xTa xs) 152 79 = some (.iconst 0, 1) := x_ins (j := 47) kk152 ia152 rfl
theorem i152_80 {xs : List Int32} : xtI (xTa xs) 152 80 = some (.iastore, 1) := x_ins (j := 48) kk152 ia152 rfl
theorem i152_81 {xs : List Int32} : xtI (xTa xs) 152 81 = some (.aload_n 0, 1) := x_ins (j := 49) kk152 ia152 rfl
theorem i152_82 {xs : List Int32} : xtI (xTa xs) 152 82 = some (.getfield 29, 3) := x_ins (j := 50) kk152 ia152 rfl
theorem i152_85 {xs : List Int32} : xtI (xTa xs) 152 85 = some (.iload 5, 2) := x_ins (j := 51) kk152 ia152 rfl
theorem i152_87 {xs : List Int32} : xtI (xTa xs) 152 87 = some (.aload_n 0, 1) := x_ins (j := 52) kk152 ia152 rfl
theorem i152_88 {xs : List Int32} : xtI (xTa xs) 152 88 = some (.getfield 146, 3) := x_ins (j := 53) kk152 ia152 rfl
theorem i152_91 {xs : List Int32} : xtI (xTa xs) 152 91 = some (.iastore, 1) := x_ins (j := 54) kk152 ia152 rfl
theorem i152_92 {xs : List Int32} : xtI (xTa xs) 152 92 = some (.iconst 0, 1) := x_ins (j := 55) kk152 ia152 rfl
theorem i152_93 {xs : List Int32} : xtI (xTa xs) 152 93 = some (.istore 6, 2) := x_ins (j := 56) kk152 ia152 rfl
theorem i152_95 {xs : List Int32} : xtI (xTa xs) 152 95 = some (.iload 6, 2) := x_ins (j := 57) kk152 ia152 rfl
theorem i152_97 {xs : List Int32} : xtI (xTa xs) 152 97 = some (.aload_n 0, 1) := x_ins (j := 58) kk152 ia152 rfl
theorem i152_98 {xs : List Int32} : xtI (xTa xs) 152 98 = some (.getfield 146, 3) := x_ins (j := 59) kk152 ia152 rfl
theorem i152_101 {xs : List Int32} : xtI (xTa xs) 152 101 = some (.if_icmp .ge 29, 3) := x_ins (j := 60) kk152 ia152 rfl
theorem i152_104 {xs : List Int32} : xtI (xTa xs) 152 104 = some (.aload_n 0, 1) := x_ins (j := 61) kk152 ia152 rfl
theorem i152_105 {xs : List Int32} : xtI (xTa xs) 152 105 = some (.getfield 26, 3) := x_ins (j := 62) kk152 ia152 rfl
theorem i152_108 {xs : List Int32} : xtI (xTa xs) 152 108 = some (.bipush 10, 2) := x_ins (j := 63) kk152 ia152 rfl
theorem i152_110 {xs : List Int32} : xtI (xTa xs) 152 110 = some (.iload 5, 2) := x_ins (j := 64) kk152 ia152 rfl
theorem i152_112 {xs : List Int32} : xtI (xTa xs) 152 112 = some (.imul, 1) := x_ins (j := 65) kk152 ia152 rfl
theorem i152_113 {xs : List Int32} : xtI (xTa xs) 152 113 = some (.iload 6, 2) := x_ins (j := 66) kk152 ia152 rfl
theorem i152_115 {xs : List Int32} : xtI (xTa xs) 152 115 = some (.iadd, 1) := x_ins (j := 67) kk152 ia152 rfl
theorem i152_116 {xs : List Int32} : xtI (xTa xs) 152 116 = some (.aload_n 0, 1) := x_ins (j := 68) kk152 ia152 rfl
theorem i152_117 {xs : List Int32} : xtI (xTa xs) 152 117 = some (.getfield 9, 3) := x_ins (j := 69) kk152 ia152 rfl
theorem i152_120 {xs : List Int32} : xtI (xTa xs) 152 120 = some (.iload 6, 2) := x_ins (j := 70) kk152 ia152 rfl
theorem i152_122 {xs : List Int32} : xtI (xTa xs) 152 122 = some (.iaload, 1) := x_ins (j := 71) kk152 ia152 rfl
theorem i152_123 {xs : List Int32} : xtI (xTa xs) 152 123 = some (.iastore, 1) := x_ins (j := 72) kk152 ia152 rfl
theorem i152_124 {xs : List Int32} : xtI (xTa xs) 152 124 = some (.iinc 6 1, 3) := x_ins (j := 73) kk152 ia152 rfl
theorem i152_127 {xs : List Int32} : xtI (xTa xs) 152 127 = some (.goto (-32), 3) := x_ins (j := 74) kk152 ia152 rfl
theorem i152_130 {xs : List Int32} : xtI (xTa xs) 152 130 = some (.iload 5, 2) := x_ins (j := 75) kk152 ia152 rfl
theorem i152_132 {xs : List Int32} : xtI (xTa xs) 152 132 = some (.ireturn, 1) := x_ins (j := 76) kk152 ia152 rfl
theorem kk153 : xK0.getD 153 [] = k153 := rfl
set_option maxRecDepth 100000 in
theorem ia153 : (k153.all fun e => decide (k153.lookup e.1 = some e.2)) = true := by decide +kernel
theorem i153_0 {xs : List Int32} : xtI (xTa xs) 153 0 = some (.iload_n 1, 1) := x_ins (j := 0) kk153 ia153 rfl
theorem i153_1 {xs : List Int32} : xtI (xTa xs) 153 1 = some (.iconst (-1), 1) := x_ins (j := 1) kk153 ia153 rfl
theorem i153_2 {xs : List Int32} : xtI (xTa xs) 153 2 = some (.if_icmp .eq 12, 3) := x_ins (j := 2) kk153 ia153 rfl
theorem i153_5 {xs : List Int32} : xtI (xTa xs) 153 5 = some (.aload_n 0, 1) := x_ins (j := 3) kk153 ia153 rfl
theorem i153_6 {xs : List Int32} : xtI (xTa xs) 153 6 = some (.iload_n 1, 1) := x_ins (j := 4) kk153 ia153 rfl
theorem i153_7 {xs : List Int32} : xtI (xTa xs) 153 7 = some (.iconst 1, 1) := x_ins (j := 5) kk153 ia153 rfl
theorem i153_8 {xs : List Int32} : xtI (xTa xs) 153 8 = some (.invokevirtual 174, 3) := x_ins (j := 6) kk153 ia153 rfl
theorem i153_11 {xs : List Int32} : xtI (xTa xs) 153 11 = some (.ifCond .eq 15, 3) := x_ins (j := 7) kk153 ia153 rfl
theorem i153_14 {xs : List Int32} : xtI (xTa xs) 153 14 = some (.aload_n 0, 1) := x_ins (j := 8) kk153 ia153 rfl
theorem i153_15 {xs : List Int32} : xtI (xTa xs) 153 15 = some (.iconst 1, 1) := x_ins (j := 9) kk153 ia153 rfl
theorem i153_16 {xs : List Int32} : xtI (xTa xs) 153 16 = some (.invokevirtual 178, 3) := x_ins (j := 10) kk153 ia153 rfl
theorem i153_19 {xs : List Int32} : xtI (xTa xs) 153 19 = some (.ifCond .eq 7, 3) := x_ins (j := 11) kk153 ia153 rfl
theorem i153_22 {xs : List Int32} : xtI (xTa xs) 153 22 = some (.iconst 1, 1) := x_ins (j := 12) kk153 ia153 rfl
theorem i153_23 {xs : List Int32} : xtI (xTa xs) 153 23 = some (.goto 4, 3) := x_ins (j := 13) kk153 ia153 rfl
theorem i153_26 {xs : List Int32} : xtI (xTa xs) 153 26 = some (.iconst 0, 1) := x_ins (j := 14) kk153 ia153 rfl
theorem i153_27 {xs : List Int32} : xtI (xTa xs) 153 27 = some (.istore_n 2, 1) := x_ins (j := 15) kk153 ia153 rfl
theorem i153_28 {xs : List Int32} : xtI (xTa xs) 153 28 = some (.iconst 0, 1) := x_ins (j := 16) kk153 ia153 rfl
theorem i153_29 {xs : List Int32} : xtI (xTa xs) 153 29 = some (.istore_n 3, 1) := x_ins (j := 17) kk153 ia153 rfl
theorem i153_30 {xs : List Int32} : xtI (xTa xs) 153 30 = some (.iload_n 3, 1) := x_ins (j := 18) kk153 ia153 rfl
theorem i153_31 {xs : List Int32} : xtI (xTa xs) 153 31 = some (.aload_n 0, 1) := x_ins (j := 19) kk153 ia153 rfl
theorem i153_32 {xs : List Int32} : xtI (xTa xs) 153 32 = some (.getfield 158, 3) := x_ins (j := 20) kk153 ia153 rfl
theorem i153_35 {xs : List Int32} : xtI (xTa xs) 153 35 = some (.if_icmp .ge 49, 3) := x_ins (j := 21) kk153 ia153 rfl
theorem i153_38 {xs : List Int32} : xtI (xTa xs) 153 38 = some (.iload_n 2, 1) := x_ins (j := 22) kk153 ia153 rfl
theorem i153_39 {xs : List Int32} : xtI (xTa xs) 153 39 = some (.ifCond .eq 45, 3) := x_ins (j := 23) kk153 ia153 rfl
theorem i153_42 {xs : List Int32} : xtI (xTa xs) 153 42 = some (.aload_n 0, 1) := x_ins (j := 24) kk153 ia153 rfl
theorem i153_43 {xs : List Int32} : xtI (xTa xs) 153 43 = some (.getfield 13, 3) := x_ins (j := 25) kk153 ia153 rfl
theorem i153_46 {xs : List Int32} : xtI (xTa xs) 153 46 = some (.iload_n 3, 1) := x_ins (j := 26) kk153 ia153 rfl
theorem i153_47 {xs : List Int32} : xtI (xTa xs) 153 47 = some (.baload, 1) := x_ins (j := 27) kk153 ia153 rfl
theorem i153_48 {xs : List Int32} : xtI (xTa xs) 153 48 = some (.ifCond .eq 24, 3) := x_ins (j := 28) kk153 ia153 rfl
theorem i153_51 {xs : List Int32} : xtI (xTa xs) 153 51 = some (.aload_n 0, 1) := x_ins (j := 29) kk153 ia153 rfl
theorem i153_52 {xs : List Int32} : xtI (xTa xs) 153 52 = some (.aload_n 0, 1) := x_ins (j := 30) kk153 ia153 rfl
theorem i153_53 {xs : List Int32} : xtI (xTa xs) 153 53 = some (.getfield 26, 3) := x_ins (j := 31) kk153 ia153 rfl
theorem i153_56 {xs : List Int32} : xtI (xTa xs) 153 56 = some (.bipush 10, 2) := x_ins (j := 32) kk153 ia153 rfl
theorem i153_58 {xs : List Int32} : xtI (xTa xs) 153 58 = some (.iload_n 3, 1) := x_ins (j := 33) kk153 ia153 rfl
theorem i153_59 {xs : List Int32} : xtI (xTa xs) 153 59 = some (.imul, 1) := x_ins (j := 34) kk153 ia153 rfl
theorem i153_60 {xs : List Int32} : xtI (xTa xs) 153 60 = some (.aload_n 0, 1) := x_ins (j := 35) kk153 ia153 rfl
theorem i153_61 {xs : List Int32} : xtI (xTa xs) 153 61 = some (.getfield 29, 3) := x_ins (j := 36) kk153 ia153 rfl
theorem i153_64 {xs : List Int32} : xtI (xTa xs) 153 64 = some (.iload_n 3, 1) := x_ins (j := 37) kk153 ia153 rfl
theorem i153_65 {xs : List Int32} : xtI (xTa xs) 153 65 = some (.iaload, 1) := x_ins (j := 38) kk153 ia153 rfl
theorem i153_66 {xs : List Int32} : xtI (xTa xs) 153 66 = some (.invokevirtual 182, 3) := x_ins (j := 39) kk153 ia153 rfl
theorem i153_69 {xs : List Int32} : xtI (xTa xs) 153 69 = some (.ifCond .ne 7, 3) := x_ins (j := 40) kk153 ia153 rfl
theorem i153_72 {xs : List Int32} : xtI (xTa xs) 153 72 = some (.iconst 1, 1) := x_ins (j := 41) kk153 ia153 rfl
theorem i153_73 {xs : List Int32} : xtI (xTa xs) 153 73 = some (.goto 4, 3) := x_ins (j := 42) kk153 ia153 rfl
theorem i153_76 {xs : List Int32} : xtI (xTa xs) 153 76 = some (.iconst 0, 1) := x_ins (j := 43) kk153 ia153 rfl
theorem i153_77 {xs : List Int32} : xtI (xTa xs) 153 77 = some (.istore_n 2, 1) := x_ins (j := 44) kk153 ia153 rfl
theorem i153_78 {xs : List Int32} : xtI (xTa xs) 153 78 = some (.iinc 3 1, 3) := x_ins (j := 45) kk153 ia153 rfl
theorem i153_81 {xs : List Int32} : xtI (xTa xs) 153 81 = some (.goto (-51), 3) := x_ins (j := 46) kk153 ia153 rfl
theorem i153_84 {xs : List Int32} : xtI (xTa xs) 153 84 = some (.iload_n 2, 1) := x_ins (j := 47) kk153 ia153 rfl
theorem i153_85 {xs : List Int32} : xtI (xTa xs) 153 85 = some (.ifCond .ne 7, 3) := x_ins (j := 48) kk153 ia153 rfl
theorem i153_88 {xs : List Int32} : xtI (xTa xs) 153 88 = some (.iconst (-1), 1) := x_ins (j := 49) kk153 ia153 rfl
theorem i153_89 {xs : List Int32} : xtI (xTa xs) 153 89 = some (.goto 25, 3) := x_ins (j := 50) kk153 ia153 rfl
theorem i153_92 {xs : List Int32} : xtI (xTa xs) 153 92 = some (.aload_n 0, 1) := x_ins (j := 51) kk153 ia153 rfl
theorem i153_93 {xs : List Int32} : xtI (xTa xs) 153 93 = some (.getfield 158, 3) := x_ins (j := 52) kk153 ia153 rfl
theorem i153_96 {xs : List Int32} : xtI (xTa xs) 153 96 = some (.bipush 40, 2) := x_ins (j := 53) kk153 ia153 rfl
theorem i153_98 {xs : List Int32} : xtI (xTa xs) 153 98 = some (.if_icmp .ne 8, 3) := x_ins (j := 54) kk153 ia153 rfl
theorem i153_101 {xs : List Int32} : xtI (xTa xs) 153 101 = some (.bipush (-3), 2) := x_ins (j := 55) kk153 ia153 rfl
theorem i153_103 {xs : List Int32} : xtI (xTa xs) 153 103 = some (.goto 11, 3) := x_ins (j := 56) kk153 ia153 rfl
theorem i153_106 {xs : List Int32} : xtI (xTa xs) 153 106 = some (.aload_n 0, 1) := x_ins (j := 57) kk153 ia153 rfl
theorem i153_107 {xs : List Int32} : xtI (xTa xs) 153 107 = some (.iconst 1, 1) := x_ins (j := 58) kk153 ia153 rfl
theorem i153_108 {xs : List Int32} : xtI (xTa xs) 153 108 = some (.iconst (-1), 1) := x_ins (j := 59) kk153 ia153 rfl
theorem i153_109 {xs : List Int32} : xtI (xTa xs) 153 109 = some (.iload_n 1, 1) := x_ins (j := 60) kk153 ia153 rfl
theorem i153_110 {xs : List Int32} : xtI (xTa xs) 153 110 = some (.iconst 0, 1) := x_ins (j := 61) kk153 ia153 rfl
theorem i153_111 {xs : List Int32} : xtI (xTa xs) 153 111 = some (.invokevirtual 186, 3) := x_ins (j := 62) kk153 ia153 rfl
theorem i153_114 {xs : List Int32} : xtI (xTa xs) 153 114 = some (.istore_n 3, 1) := x_ins (j := 63) kk153 ia153 rfl
theorem i153_115 {xs : List Int32} : xtI (xTa xs) 153 115 = some (.aload_n 0, 1) := x_ins (j := 64) kk153 ia153 rfl
theorem i153_116 {xs : List Int32} : xtI (xTa xs) 153 116 = some (.iconst 0, 1) := x_ins (j := 65) kk153 ia153 rfl
theorem i153_117 {xs : List Int32} : xtI (xTa xs) 153 117 = some (.putfield 146, 3) := x_ins (j := 66) kk153 ia153 rfl
theorem i153_120 {xs : List Int32} : xtI (xTa xs) 153 120 = some (.iload_n 3, 1) := x_ins (j := 67) kk153 ia153 rfl
theorem i153_121 {xs : List Int32} : xtI (xTa xs) 153 121 = some (.ireturn, 1) := x_ins (j := 68) kk153 ia153 rfl
theorem kk154 : xK0.getD 154 [] = k154 := rfl
set_option maxRecDepth 100000 in
theorem ia154 : (k154.all fun e => decide (k154.lookup e.1 = some e.2)) = true := by decide +kernel
theorem i154_0 {xs : List Int32} : xtI (xTa xs) 154 0 = some (.aload_n 0, 1) := x_ins (j := 0) kk154 ia154 rfl
theorem i154_1 {xs : List Int32} : xtI (xTa xs) 154 1 = some (.iload_n 1, 1) := x_ins (j := 1) kk154 ia154 rfl
theorem i154_2 {xs : List Int32} : xtI (xTa xs) 154 2 = some (.iconst 1, 1) := x_ins (j := 2) kk154 ia154 rfl
theorem i154_3 {xs : List Int32} : xtI (xTa xs) 154 3 = some (.invokevirtual 174, 3) := x_ins (j := 3) kk154 ia154 rfl
theorem i154_6 {xs : List Int32} : xtI (xTa xs) 154 6 = some (.ifCond .eq 15, 3) := x_ins (j := 4) kk154 ia154 rfl
theorem i154_9 {xs : List Int32} : xtI (xTa xs) 154 9 = some (.aload_n 0, 1) := x_ins (j := 5) kk154 ia154 rfl
theorem i154_10 {xs : List Int32} : xtI (xTa xs) 154 10 = some (.iconst 0, 1) := x_ins (j := 6) kk154 ia154 rfl
theorem i154_11 {xs : List Int32} : xtI (xTa xs) 154 11 = some (.invokevirtual 178, 3) := x_ins (j := 7) kk154 ia154 rfl
theorem i154_14 {xs : List Int32} : xtI (xTa xs) 154 14 = some (.ifCond .eq 7, 3) := x_ins (j := 8) kk154 ia154 rfl
theorem i154_17 {xs : List Int32} : xtI (xTa xs) 154 17 = some (.iconst 1, 1) := x_ins (j := 9) kk154 ia154 rfl
theorem i154_18 {xs : List Int32} : xtI (xTa xs) 154 18 = some (.goto 4, 3) := x_ins (j := 10) kk154 ia154 rfl
theorem i154_21 {xs : List Int32} : xtI (xTa xs) 154 21 = some (.iconst 0, 1) := x_ins (j := 11) kk154 ia154 rfl
theorem i154_22 {xs : List Int32} : xtI (xTa xs) 154 22 = some (.istore_n 3, 1) := x_ins (j := 12) kk154 ia154 rfl
theorem i154_23 {xs : List Int32} : xtI (xTa xs) 154 23 = some (.iconst 0, 1) := x_ins (j := 13) kk154 ia154 rfl
theorem i154_24 {xs : List Int32} : xtI (xTa xs) 154 24 = some (.istore 4, 2) := x_ins (j := 14) kk154 ia154 rfl
theorem i154_26 {xs : List Int32} : xtI (xTa xs) 154 26 = some (.iload 4, 2) := x_ins (j := 15) kk154 ia154 rfl
theorem i154_28 {xs : List Int32} : xtI (xTa xs) 154 28 = some (.aload_n 0, 1) := x_ins (j := 16) kk154 ia154 rfl
theorem i154_29 {xs : List Int32} : xtI (xTa xs) 154 29 = some (.getfield 158, 3) := x_ins (j := 17) kk154 ia154 rfl
theorem i154_32 {xs : List Int32} : xtI (xTa xs) 154 32 = some (.if_icmp .ge 63, 3) := x_ins (j := 18) kk154 ia154 rfl
theorem i154_35 {xs : List Int32} : xtI (xTa xs) 154 35 = some (.iload_n 3, 1) := x_ins (j := 19) kk154 ia154 rfl
theorem i154_36 {xs : List Int32} : xtI (xTa xs) 154 36 = some (.ifCond .eq 59, 3) := x_ins (j := 20) kk154 ia154 rfl
theorem i154_39 {xs : List Int32} : xtI (xTa xs) 154 39 = some (.aload_n 0, 1) := x_ins (j := 21) kk154 ia154 rfl
theorem i154_40 {xs : List Int32} : xtI (xTa xs) 154 40 = some (.getfield 13, 3) := x_ins (j := 22) kk154 ia154 rfl
theorem i154_43 {xs : List Int32} : xtI (xTa xs) 154 43 = some (.iload 4, 2) := x_ins (j := 23) kk154 ia154 rfl
theorem i154_45 {xs : List Int32} : xtI (xTa xs) 154 45 = some (.baload, 1) := x_ins (j := 24) kk154 ia154 rfl
theorem i154_46 {xs : List Int32} : xtI (xTa xs) 154 46 = some (.ifCond .ne 37, 3) := x_ins (j := 25) kk154 ia154 rfl
theorem i154_49 {xs : List Int32} : xtI (xTa xs) 154 49 = some (.aload_n 0, 1) := x_ins (j := 26) kk154 ia154 rfl
theorem i154_50 {xs : List Int32} : xtI (xTa xs) 154 50 = some (.getfield 17, 3) := x_ins (j := 27) kk154 ia154 rfl
theorem i154_53 {xs : List Int32} : xtI (xTa xs) 154 53 = some (.iload 4, 2) := x_ins (j := 28) kk154 ia154 rfl
theorem i154_55 {xs : List Int32} : xtI (xTa xs) 154 55 = some (.iaload, 1) := x_ins (j := 29) kk154 ia154 rfl
theorem i154_56 {xs : List Int32} : xtI (xTa xs) 154 56 = some (.iload_n 1, 1) := x_ins (j := 30) kk154 ia154 rfl
theorem i154_57 {xs : List Int32} : xtI (xTa xs) 154 57 = some (.if_icmp .ne 26, 3) := x_ins (j := 31) kk154 ia154 rfl
theorem i154_60 {xs : List Int32} : xtI (xTa xs) 154 60 = some (.aload_n 0, 1) := x_ins (j := 32) kk154 ia154 rfl
theorem i154_61 {xs : List Int32} : xtI (xTa xs) 154 61 = some (.aload_n 0, 1) := x_ins (j := 33) kk154 ia154 rfl
theorem i154_62 {xs : List Int32} : xtI (xTa xs) 154 62 = some (.getfield 26, 3) := x_ins (j := 34) kk154 ia154 rfl
theorem i154_65 {xs : List Int32} : xtI (xTa xs) 154 65 = some (.bipush 10, 2) := x_ins (j := 35) kk154 ia154 rfl
theorem i154_67 {xs : List Int32} : xtI (xTa xs) 154 67 = some (.iload 4, 2) := x_ins (j := 36) kk154 ia154 rfl
theorem i154_69 {xs : List Int32} : xtI (xTa xs) 154 69 = some (.imul, 1) := x_ins (j := 37) kk154 ia154 rfl
theorem i154_70 {xs : List Int32} : xtI (xTa xs) 154 70 = some (.aload_n 0, 1) := x_ins (j := 38) kk154 ia154 rfl
theorem i154_71 {xs : List Int32} : xtI (xTa xs) 154 71 = some (.getfield 29, 3) := x_ins (j := 39) kk154 ia154 rfl
theorem i154_74 {xs : List Int32} : xtI (xTa xs) 154 74 = some (.iload 4, 2) := x_ins (j := 40) kk154 ia154 rfl
theorem i154_76 {xs : List Int32} : xtI (xTa xs) 154 76 = some (.iaload, 1) := x_ins (j := 41) kk154 ia154 rfl
theorem i154_77 {xs : List Int32} : xtI (xTa xs) 154 77 = some (.invokevirtual 182, 3) := x_ins (j := 42) kk154 ia154 rfl
theorem i154_80 {xs : List Int32} : xtI (xTa xs) 154 80 = some (.ifCond .ne 7, 3) := x_ins (j := 43) kk154 ia154 rfl
theorem i154_83 {xs : List Int32} : xtI (xTa xs) 154 83 = some (.iconst 1, 1) := x_ins (j := 44) kk154 ia154 rfl
theorem i154_84 {xs : List Int32} : xtI (xTa xs) 154 84 = some (.goto 4, 3) := x_ins (j := 45) kk154 ia154 rfl
theorem i154_87 {xs : List Int32} : xtI (xTa xs) 154 87 = some (.iconst 0, 1) := x_ins (j := 46) kk154 ia154 rfl
theorem i154_88 {xs : List Int32} : xtI (xTa xs) 154 88 = some (.istore_n 3, 1) := x_ins (j := 47) kk154 ia154 rfl
theorem i154_89 {xs : List Int32} : xtI (xTa xs) 154 89 = some (.iinc 4 1, 3) := x_ins (j := 48) kk154 ia154 rfl
theorem i154_92 {xs : List Int32} : xtI (xTa xs) 154 92 = some (.goto (-66), 3) := x_ins (j := 49) kk154 ia154 rfl
theorem i154_95 {xs : List Int32} : xtI (xTa xs) 154 95 = some (.iload_n 3, 1) := x_ins (j := 50) kk154 ia154 rfl
theorem i154_96 {xs : List Int32} : xtI (xTa xs) 154 96 = some (.ifCond .ne 7, 3) := x_ins (j := 51) kk154 ia154 rfl
theorem i154_99 {xs : List Int32} : xtI (xTa xs) 154 99 = some (.iconst (-1), 1) := x_ins (j := 52) kk154 ia154 rfl
theorem i154_100 {xs : List Int32} : xtI (xTa xs) 154 100 = some (.goto 25, 3) := x_ins (j := 53) kk154 ia154 rfl
theorem i154_103 {xs : List Int32} : xtI (xTa xs) 154 103 = some (.aload_n 0, 1) := x_ins (j := 54) kk154 ia154 rfl
theorem i154_104 {xs : List Int32} : xtI (xTa xs) 154 104 = some (.getfield 158, 3) := x_ins (j := 55) kk154 ia154 rfl
theorem i154_107 {xs : List Int32} : xtI (xTa xs) 154 107 = some (.bipush 40, 2) := x_ins (j := 56) kk154 ia154 rfl
theorem i154_109 {xs : List Int32} : xtI (xTa xs) 154 109 = some (.if_icmp .ne 8, 3) := x_ins (j := 57) kk154 ia154 rfl
theorem i154_112 {xs : List Int32} : xtI (xTa xs) 154 112 = some (.bipush (-3), 2) := x_ins (j := 58) kk154 ia154 rfl
theorem i154_114 {xs : List Int32} : xtI (xTa xs) 154 114 = some (.goto 11, 3) := x_ins (j := 59) kk154 ia154 rfl
theorem i154_117 {xs : List Int32} : xtI (xTa xs) 154 117 = some (.aload_n 0, 1) := x_ins (j := 60) kk154 ia154 rfl
theorem i154_118 {xs : List Int32} : xtI (xTa xs) 154 118 = some (.iconst 0, 1) := x_ins (j := 61) kk154 ia154 rfl
theorem i154_119 {xs : List Int32} : xtI (xTa xs) 154 119 = some (.iload_n 1, 1) := x_ins (j := 62) kk154 ia154 rfl
theorem i154_120 {xs : List Int32} : xtI (xTa xs) 154 120 = some (.iconst (-1), 1) := x_ins (j := 63) kk154 ia154 rfl
theorem i154_121 {xs : List Int32} : xtI (xTa xs) 154 121 = some (.iload_n 2, 1) := x_ins (j := 64) kk154 ia154 rfl
theorem i154_122 {xs : List Int32} : xtI (xTa xs) 154 122 = some (.invokevirtual 186, 3) := x_ins (j := 65) kk154 ia154 rfl
theorem i154_125 {xs : List Int32} : xtI (xTa xs) 154 125 = some (.istore 4, 2) := x_ins (j := 66) kk154 ia154 rfl
theorem i154_127 {xs : List Int32} : xtI (xTa xs) 154 127 = some (.aload_n 0, 1) := x_ins (j := 67) kk154 ia154 rfl
theorem i154_128 {xs : List Int32} : xtI (xTa xs) 154 128 = some (.iconst 0, 1) := x_ins (j := 68) kk154 ia154 rfl
theorem i154_129 {xs : List Int32} : xtI (xTa xs) 154 129 = some (.putfield 146, 3) := x_ins (j := 69) kk154 ia154 rfl
theorem i154_132 {xs : List Int32} : xtI (xTa xs) 154 132 = some (.iload 4, 2) := x_ins (j := 70) kk154 ia154 rfl
theorem i154_134 {xs : List Int32} : xtI (xTa xs) 154 134 = some (.ireturn, 1) := x_ins (j := 71) kk154 ia154 rfl
theorem kk155 : xK0.getD 155 [] = k155 := rfl
set_option maxRecDepth 100000 in
theorem ia155 : (k155.all fun e => decide (k155.lookup e.1 = some e.2)) = true := by decide +kernel
theorem i155_0 {xs : List Int32} : xtI (xTa xs) 155 0 = some (.aload_n 0, 1) := x_ins (j := 0) kk155 ia155 rfl
theorem i155_1 {xs : List Int32} : xtI (xTa xs) 155 1 = some (.iload_n 1, 1) := x_ins (j := 1) kk155 ia155 rfl
theorem i155_2 {xs : List Int32} : xtI (xTa xs) 155 2 = some (.iconst 0, 1) := x_ins (j := 2) kk155 ia155 rfl
theorem i155_3 {xs : List Int32} : xtI (xTa xs) 155 3 = some (.invokevirtual 174, 3) := x_ins (j := 3) kk155 ia155 rfl
theorem i155_6 {xs : List Int32} : xtI (xTa xs) 155 6 = some (.ifCond .eq 15, 3) := x_ins (j := 4) kk155 ia155 rfl
theorem i155_9 {xs : List Int32} : xtI (xTa xs) 155 9 = some (.aload_n 0, 1) := x_ins (j := 5) kk155 ia155 rfl
theorem i155_10 {xs : List Int32} : xtI (xTa xs) 155 10 = some (.iconst 0, 1) := x_ins (j := 6) kk155 ia155 rfl
theorem i155_11 {xs : List Int32} : xtI (xTa xs) 155 11 = some (.invokevirtual 178, 3) := x_ins (j := 7) kk155 ia155 rfl
theorem i155_14 {xs : List Int32} : xtI (xTa xs) 155 14 = some (.ifCond .eq 7, 3) := x_ins (j := 8) kk155 ia155 rfl
theorem i155_17 {xs : List Int32} : xtI (xTa xs) 155 17 = some (.iconst 1, 1) := x_ins (j := 9) kk155 ia155 rfl
theorem i155_18 {xs : List Int32} : xtI (xTa xs) 155 18 = some (.goto 4, 3) := x_ins (j := 10) kk155 ia155 rfl
theorem i155_21 {xs : List Int32} : xtI (xTa xs) 155 21 = some (.iconst 0, 1) := x_ins (j := 11) kk155 ia155 rfl
theorem i155_22 {xs : List Int32} : xtI (xTa xs) 155 22 = some (.istore_n 2, 1) := x_ins (j := 12) kk155 ia155 rfl
theorem i155_23 {xs : List Int32} : xtI (xTa xs) 155 23 = some (.iconst 0, 1) := x_ins (j := 13) kk155 ia155 rfl
theorem i155_24 {xs : List Int32} : xtI (xTa xs) 155 24 = some (.istore_n 3, 1) := x_ins (j := 14) kk155 ia155 rfl
theorem i155_25 {xs : List Int32} : xtI (xTa xs) 155 25 = some (.iload_n 2, 1) := x_ins (j := 15) kk155 ia155 rfl
theorem i155_26 {xs : List Int32} : xtI (xTa xs) 155 26 = some (.ifCond .eq 55, 3) := x_ins (j := 16) kk155 ia155 rfl
theorem i155_29 {xs : List Int32} : xtI (xTa xs) 155 29 = some (.iload_n 3, 1) := x_ins (j := 17) kk155 ia155 rfl
theorem i155_30 {xs : List Int32} : xtI (xTa xs) 155 30 = some (.aload_n 0, 1) := x_ins (j := 18) kk155 ia155 rfl
theorem i155_31 {xs : List Int32} : xtI (xTa xs) 155 31 = some (.getfield 32, 3) := x_ins (j := 19) kk155 ia155 rfl
theorem i155_34 {xs : List Int32} : xtI (xTa xs) 155 34 = some (.iload_n 1, 1) := x_ins (j := 20) kk155 ia155 rfl
theorem i155_35 {xs : List Int32} : xtI (xTa xs) 155 35 = some (.iaload, 1) := x_ins (j := 21) kk155 ia155 rfl
theorem i155_36 {xs : List Int32} : xtI (xTa xs) 155 36 = some (.if_icmp .ge 45, 3) := x_ins (j := 22) kk155 ia155 rfl
theorem i155_39 {xs : List Int32} : xtI (xTa xs) 155 39 = some (.iconst 4, 1) := x_ins (j := 23) kk155 ia155 rfl
theorem i155_40 {xs : List Int32} : xtI (xTa xs) 155 40 = some (.iload_n 1, 1) := x_ins (j := 24) kk155 ia155 rfl
theorem i155_41 {xs : List Int32} : xtI (xTa xs) 155 41 = some (.imul, 1) := x_ins (j := 25) kk155 ia155 rfl
theorem i155_42 {xs : List Int32} : xtI (xTa xs) 155 42 = some (.iload_n 3, 1) := x_ins (j := 26) kk155 ia155 rfl
theorem i155_43 {xs : List Int32} : xtI (xTa xs) 155 43 = some (.iadd, 1) := x_ins (j := 27) kk155 ia155 rfl
theorem i155_44 {xs : List Int32} : xtI (xTa xs) 155 44 = some (.istore 4, 2) := x_ins (j := 28) kk155 ia155 rfl
theorem i155_46 {xs : List Int32} : xtI (xTa xs) 155 46 = some (.aload_n 0, 1) := x_ins (j := 29) kk155 ia155 rfl
theorem i155_47 {xs : List Int32} : xtI (xTa xs) 155 47 = some (.aload_n 0, 1) := x_ins (j := 30) kk155 ia155 rfl
theorem i155_48 {xs : List Int32} : xtI (xTa xs) 155 48 = some (.getfield 35, 3) := x_ins (j := 31) kk155 ia155 rfl
theorem i155_51 {xs : List Int32} : xtI (xTa xs) 155 51 = some (.bipush 10, 2) := x_ins (j := 32) kk155 ia155 rfl
theorem i155_53 {xs : List Int32} : xtI (xTa xs) 155 53 = some (.iload 4, 2) := x_ins (j := 33) kk155 ia155 rfl
theorem i155_55 {xs : List Int32} : xtI (xTa xs) 155 55 = some (.imul, 1) := x_ins (j := 34) kk155 ia155 rfl
theorem i155_56 {xs : List Int32} : xtI (xTa xs) 155 56 = some (.aload_n 0, 1) := x_ins (j := 35) kk155 ia155 rfl
theorem i155_57 {xs : List Int32} : xtI (xTa xs) 155 57 = some (.getfield 38, 3) := x_ins (j := 36) kk155 ia155 rfl
theorem i155_60 {xs : List Int32} : xtI (xTa xs) 155 60 = some (.iload 4, 2) := x_ins (j := 37) kk155 ia155 rfl
theorem i155_62 {xs : List Int32} : xtI (xTa xs) 155 62 = some (.iaload, 1) := x_ins (j := 38) kk155 ia155 rfl
theorem i155_63 {xs : List Int32} : xtI (xTa xs) 155 63 = some (.invokevirtual 182, 3) := x_ins (j := 39) kk155 ia155 rfl
theorem i155_66 {xs : List Int32} : xtI (xTa xs) 155 66 = some (.ifCond .ne 7, 3) := x_ins (j := 40) kk155 ia155 rfl
theorem i155_69 {xs : List Int32} : xtI (xTa xs) 155 69 = some (.iconst 1, 1) := x_ins (j := 41) kk155 ia155 rfl
theorem i155_70 {xs : List Int32} : xtI (xTa xs) 155 70 = some (.goto 4, 3) := x_ins (j := 42) kk155 ia155 rfl
theorem i155_73 {xs : List Int32} : xtI (xTa xs) 155 73 = some (.iconst 0, 1) := x_ins (j := 43) kk155 ia155 rfl
theorem i155_74 {xs : List Int32} : xtI (xTa xs) 155 74 = some (.istore_n 2, 1) := x_ins (j := 44) kk155 ia155 rfl
theorem i155_75 {xs : List Int32} : xtI (xTa xs) 155 75 = some (.iinc 3 1, 3) := x_ins (j := 45) kk155 ia155 rfl
theorem i155_78 {xs : List Int32} : xtI (xTa xs) 155 78 = some (.goto (-53), 3) := x_ins (j := 46) kk155 ia155 rfl
theorem i155_81 {xs : List Int32} : xtI (xTa xs) 155 81 = some (.iload_n 2, 1) := x_ins (j := 47) kk155 ia155 rfl
theorem i155_82 {xs : List Int32} : xtI (xTa xs) 155 82 = some (.ifCond .eq 8, 3) := x_ins (j := 48) kk155 ia155 rfl
theorem i155_85 {xs : List Int32} : xtI (xTa xs) 155 85 = some (.bipush (-3), 2) := x_ins (j := 49) kk155 ia155 rfl
theorem i155_87 {xs : List Int32} : xtI (xTa xs) 155 87 = some (.goto 4, 3) := x_ins (j := 50) kk155 ia155 rfl
theorem i155_90 {xs : List Int32} : xtI (xTa xs) 155 90 = some (.iconst (-1), 1) := x_ins (j := 51) kk155 ia155 rfl
theorem i155_91 {xs : List Int32} : xtI (xTa xs) 155 91 = some (.istore_n 3, 1) := x_ins (j := 52) kk155 ia155 rfl
theorem i155_92 {xs : List Int32} : xtI (xTa xs) 155 92 = some (.iload_n 2, 1) := x_ins (j := 53) kk155 ia155 rfl
theorem i155_93 {xs : List Int32} : xtI (xTa xs) 155 93 = some (.ifCond .eq 91, 3) := x_ins (j := 54) kk155 ia155 rfl
theorem i155_96 {xs : List Int32} : xtI (xTa xs) 155 96 = some (.aload_n 0, 1) := x_ins (j := 55) kk155 ia155 rfl
theorem i155_97 {xs : List Int32} : xtI (xTa xs) 155 97 = some (.getfield 32, 3) := x_ins (j := 56) kk155 ia155 rfl
theorem i155_100 {xs : List Int32} : xtI (xTa xs) 155 100 = some (.iload_n 1, 1) := x_ins (j := 57) kk155 ia155 rfl
theorem i155_101 {xs : List Int32} : xtI (xTa xs) 155 101 = some (.iaload, 1) := x_ins (j := 58) kk155 ia155 rfl
theorem i155_102 {xs : List Int32} : xtI (xTa xs) 155 102 = some (.iconst 4, 1) := x_ins (j := 59) kk155 ia155 rfl
theorem i155_103 {xs : List Int32} : xtI (xTa xs) 155 103 = some (.if_icmp .ge 81, 3) := x_ins (j := 60) kk155 ia155 rfl
theorem i155_106 {xs : List Int32} : xtI (xTa xs) 155 106 = some (.iconst 4, 1) := x_ins (j := 61) kk155 ia155 rfl
theorem i155_107 {xs : List Int32} : xtI (xTa xs) 155 107 = some (.iload_n 1, 1) := x_ins (j := 62) kk155 ia155 rfl
theorem i155_108 {xs : List Int32} : xtI (xTa xs) 155 108 = some (.imul, 1) := x_ins (j := 63) kk155 ia155 rfl
theorem i155_109 {xs : List Int32} : xtI (xTa xs) 155 109 = some (.aload_n 0, 1) := x_ins (j := 64) kk155 ia155 rfl
theorem i155_110 {xs : List Int32} : xtI (xTa xs) 155 110 = some (.getfield 32, 3) := x_ins (j := 65) kk155 ia155 rfl
theorem i155_113 {xs : List Int32} : xtI (xTa xs) 155 113 = some (.iload_n 1, 1) := x_ins (j := 66) kk155 ia155 rfl
theorem i155_114 {xs : List Int32} : xtI (xTa xs) 155 114 = some (.iaload, 1) := x_ins (j := 67) kk155 ia155 rfl
theorem i155_115 {xs : List Int32} : xtI (xTa xs) 155 115 = some (.iadd, 1) := x_ins (j := 68) kk155 ia155 rfl
theorem i155_116 {xs : List Int32} : xtI (xTa xs) 155 116 = some (.istore 4, 2) := x_ins (j := 69) kk155 ia155 rfl
theorem i155_118 {xs : List Int32} : xtI (xTa xs) 155 118 = some (.aload_n 0, 1) := x_ins (j := 70) kk155 ia155 rfl
theorem i155_119 {xs : List Int32} : xtI (xTa xs) 155 119 = some (.getfield 38, 3) := x_ins (j := 71) kk155 ia155 rfl
theorem i155_122 {xs : List Int32} : xtI (xTa xs) 155 122 = some (.iload 4, 2) := x_ins (j := 72) kk155 ia155 rfl
theorem i155_124 {xs : List Int32} : xtI (xTa xs) 155 124 = some (.aload_n 0, 1) := x_ins (j := 73) kk155 ia155 rfl
theorem i155_125 {xs : List Int32} : xtI (xTa xs) 155 125 = some (.getfield 146, 3) := x_ins (j := 74) kk155 ia155 rfl
theorem i155_128 {xs : List Int32} : xtI (xTa xs) 155 128 = some (.iastore, 1) := x_ins (j := 75) kk155 ia155 rfl
theorem i155_129 {xs : List Int32} : xtI (xTa xs) 155 129 = some (.iconst 0, 1) := x_ins (j := 76) kk155 ia155 rfl
theorem i155_130 {xs : List Int32} : xtI (xTa xs) 155 130 = some (.istore 5, 2) := x_ins (j := 77) kk155 ia155 rfl
theorem i155_132 {xs : List Int32} : xtI (xTa xs) 155 132 = some (.iload 5, 2) := x_ins (j := 78) kk155 ia155 rfl
theorem i155_134 {xs : List Int32} : xtI (xTa xs) 155 134 = some (.aload_n 0, 1) := x_ins (j := 79) kk155 ia155 rfl
theorem i155_135 {xs : List Int32} : xtI (xTa xs) 155 135 = some (.getfield 146, 3) := x_ins (j := 80) kk155 ia155 rfl
theorem i155_138 {xs : List Int32} : xtI (xTa xs) 155 138 = some (.if_icmp .ge 29, 3) := x_ins (j := 81) kk155 ia155 rfl
theorem i155_141 {xs : List Int32} : xtI (xTa xs) 155 141 = some (.aload_n 0, 1) := x_ins (j := 82) kk155 ia155 rfl
theorem i155_142 {xs : List Int32} : xtI (xTa xs) 155 142 = some (.getfield 35, 3) := x_ins (j := 83) kk155 ia155 rfl
theorem i155_145 {xs : List Int32} : xtI (xTa xs) 155 145 = some (.bipush 10, 2) := x_ins (j := 84) kk155 ia155 rfl
theorem i155_147 {xs : List Int32} : xtI (xTa xs) 155 147 = some (.iload 4, 2) := x_ins (j := 85) kk155 ia155 rfl
theorem i155_149 {xs : List Int32} : xtI (xTa xs) 155 149 = some (.imul, 1) := x_ins (j := 86) kk155 ia155 rfl
theorem i155_150 {xs : List Int32} : xtI (xTa xs) 155 150 = some (.iload 5, 2) := x_ins (j := 87) kk155 ia155 rfl
theorem i155_152 {xs : List Int32} : xtI (xTa xs) 155 152 = some (.iadd, 1) := x_ins (j := 88) kk155 ia155 rfl
theorem i155_153 {xs : List Int32} : xtI (xTa xs) 155 153 = some (.aload_n 0, 1) := x_ins (j := 89) kk155 ia155 rfl
theorem i155_154 {xs : List Int32} : xtI (xTa xs) 155 154 = some (.getfield 9, 3) := x_ins (j := 90) kk155 ia155 rfl
theorem i155_157 {xs : List Int32} : xtI (xTa xs) 155 157 = some (.iload 5, 2) := x_ins (j := 91) kk155 ia155 rfl
theorem i155_159 {xs : List Int32} : xtI (xTa xs) 155 159 = some (.iaload, 1) := x_ins (j := 92) kk155 ia155 rfl
theorem i155_160 {xs : List Int32} : xtI (xTa xs) 155 160 = some (.iastore, 1) := x_ins (j := 93) kk155 ia155 rfl
theorem i155_161 {xs : List Int32} : xtI (xTa xs) 155 161 = some (.iinc 5 1, 3) := x_ins (j := 94) kk155 ia155 rfl
theorem i155_164 {xs : List Int32} : xtI (xTa xs) 155 164 = some (.goto (-32), 3) := x_ins (j := 95) kk155 ia155 rfl
theorem i155_167 {xs : List Int32} : xtI (xTa xs) 155 167 = some (.aload_n 0, 1) := x_ins (j := 96) kk155 ia155 rfl
theorem i155_168 {xs : List Int32} : xtI (xTa xs) 155 168 = some (.getfield 32, 3) := x_ins (j := 97) kk155 ia155 rfl
theorem i155_171 {xs : List Int32} : xtI (xTa xs) 155 171 = some (.iload_n 1, 1) := x_ins (j := 98) kk155 ia155 rfl
theorem i155_172 {xs : List Int32} : xtI (xTa xs) 155 172 = some (.dup2, 1) := x_ins (j := 99) kk155 ia155 rfl
theorem i155_173 {xs : List Int32} : xtI (xTa xs) 155 173 = some (.iaload, 1) := x_ins (j := 100) kk155 ia155 rfl
theorem i155_174 {xs : List Int32} : xtI (xTa xs) 155 174 = some (.iconst 1, 1) := x_ins (j := 101) kk155 ia155 rfl
theorem i155_175 {xs : List Int32} : xtI (xTa xs) 155 175 = some (.iadd, 1) := x_ins (j := 102) kk155 ia155 rfl
theorem i155_176 {xs : List Int32} : xtI (xTa xs) 155 176 = some (.iastore, 1) := x_ins (j := 103) kk155 ia155 rfl
theorem i155_177 {xs : List Int32} : xtI (xTa xs) 155 177 = some (.aload_n 0, 1) := x_ins (j := 104) kk155 ia155 rfl
theorem i155_178 {xs : List Int32} : xtI (xTa xs) 155 178 = some (.getfield 32, 3) := x_ins (j := 105) kk155 ia155 rfl
theorem i155_181 {xs : List Int32} : xtI (xTa xs) 155 181 = some (.iload_n 1, 1) := x_ins (j := 106) kk155 ia155 rfl
theorem i155_182 {xs : List Int32} : xtI (xTa xs) 155 182 = some (.iaload, 1) := x_ins (j := 107) kk155 ia155 rfl
theorem i155_183 {xs : List Int32} : xtI (xTa xs) 155 183 = some (.istore_n 3, 1) := x_ins (j := 108) kk155 ia155 rfl
theorem i155_184 {xs : List Int32} : xtI (xTa xs) 155 184 = some (.aload_n 0, 1) := x_ins (j := 109) kk155 ia155 rfl
theorem i155_185 {xs : List Int32} : xtI (xTa xs) 155 185 = some (.iconst 0, 1) := x_ins (j := 110) kk155 ia155 rfl
theorem i155_186 {xs : List Int32} : xtI (xTa xs) 155 186 = some (.putfield 146, 3) := x_ins (j := 111) kk155 ia155 rfl
theorem i155_189 {xs : List Int32} : xtI (xTa xs) 155 189 = some (.iload_n 3, 1) := x_ins (j := 112) kk155 ia155 rfl
theorem i155_190 {xs : List Int32} : xtI (xTa xs) 155 190 = some (.ireturn, 1) := x_ins (j := 113) kk155 ia155 rfl
theorem kk156 : xK0.getD 156 [] = k156 := rfl
set_option maxRecDepth 100000 in
theorem ia156 : (k156.all fun e => decide (k156.lookup e.1 = some e.2)) = true := by decide +kernel
theorem i156_0 {xs : List Int32} : xtI (xTa xs) 156 0 = some (.aload_n 0, 1) := x_ins (j := 0) kk156 ia156 rfl
theorem i156_1 {xs : List Int32} : xtI (xTa xs) 156 1 = some (.getfield 13, 3) := x_ins (j := 1) kk156 ia156 rfl
theorem i156_4 {xs : List Int32} : xtI (xTa xs) 156 4 = some (.iload_n 1, 1) := x_ins (j := 2) kk156 ia156 rfl
theorem i156_5 {xs : List Int32} : xtI (xTa xs) 156 5 = some (.baload, 1) := x_ins (j := 3) kk156 ia156 rfl
theorem i156_6 {xs : List Int32} : xtI (xTa xs) 156 6 = some (.ifCond .eq 5, 3) := x_ins (j := 4) kk156 ia156 rfl
theorem i156_9 {xs : List Int32} : xtI (xTa xs) 156 9 = some (.iconst (-1), 1) := x_ins (j := 5) kk156 ia156 rfl
theorem i156_10 {xs : List Int32} : xtI (xTa xs) 156 10 = some (.ireturn, 1) := x_ins (j := 6) kk156 ia156 rfl
theorem i156_11 {xs : List Int32} : xtI (xTa xs) 156 11 = some (.aload_n 0, 1) := x_ins (j := 7) kk156 ia156 rfl
theorem i156_12 {xs : List Int32} : xtI (xTa xs) 156 12 = some (.aload_n 0, 1) := x_ins (j := 8) kk156 ia156 rfl
theorem i156_13 {xs : List Int32} : xtI (xTa xs) 156 13 = some (.getfield 20, 3) := x_ins (j := 9) kk156 ia156 rfl
theorem i156_16 {xs : List Int32} : xtI (xTa xs) 156 16 = some (.aload_n 0, 1) := x_ins (j := 10) kk156 ia156 rfl
theorem i156_17 {xs : List Int32} : xtI (xTa xs) 156 17 = some (.getfield 17, 3) := x_ins (j := 11) kk156 ia156 rfl
theorem i156_20 {xs : List Int32} : xtI (xTa xs) 156 20 = some (.iload_n 1, 1) := x_ins (j := 12) kk156 ia156 rfl
theorem i156_21 {xs : List Int32} : xtI (xTa xs) 156 21 = some (.iaload, 1) := x_ins (j := 13) kk156 ia156 rfl
theorem i156_22 {xs : List Int32} : xtI (xTa xs) 156 22 = some (.iaload, 1) := x_ins (j := 14) kk156 ia156 rfl
theorem i156_23 {xs : List Int32} : xtI (xTa xs) 156 23 = some (.aload_n 0, 1) := x_ins (j := 15) kk156 ia156 rfl
theorem i156_24 {xs : List Int32} : xtI (xTa xs) 156 24 = some (.getfield 26, 3) := x_ins (j := 16) kk156 ia156 rfl
theorem i156_27 {xs : List Int32} : xtI (xTa xs) 156 27 = some (.bipush 10, 2) := x_ins (j := 17) kk156 ia156 rfl
theorem i156_29 {xs : List Int32} : xtI (xTa xs) 156 29 = some (.iload_n 1, 1) := x_ins (j := 18) kk156 ia156 rfl
theorem i156_30 {xs : List Int32} : xtI (xTa xs) 156 30 = some (.imul, 1) := x_ins (j := 19) kk156 ia156 rfl
theorem i156_31 {xs : List Int32} : xtI (xTa xs) 156 31 = some (.aload_n 0, 1) := x_ins (j := 20) kk156 ia156 rfl
theorem i156_32 {xs : List Int32} : xtI (xTa xs) 156 32 = some (.getfield 29, 3) := x_ins (j := 21) kk156 ia156 rfl
theorem i156_35 {xs : List Int32} : xtI (xTa xs) 156 35 = some (.iload_n 1, 1) := x_ins (j := 22) kk156 ia156 rfl
theorem i156_36 {xs : List Int32} : xtI (xTa xs) 156 36 = some (.iaload, 1) := x_ins (j := 23) kk156 ia156 rfl
theorem i156_37 {xs : List Int32} : xtI (xTa xs) 156 37 = some (.invokevirtual 190, 3) := x_ins (j := 24) kk156 ia156 rfl
theorem i156_40 {xs : List Int32} : xtI (xTa xs) 156 40 = some (.ireturn, 1) := x_ins (j := 25) kk156 ia156 rfl
theorem kk157 : xK0.getD 157 [] = k157 := rfl
set_option maxRecDepth 100000 in
theorem ia157 : (k157.all fun e => decide (k157.lookup e.1 = some e.2)) = true := by decide +kernel
theorem i157_0 {xs : List Int32} : xtI (xTa xs) 157 0 = some (.iload_n 1, 1) := x_ins (j := 0) kk157 ia157 rfl
theorem i157_1 {xs : List Int32} : xtI (xTa xs) 157 1 = some (.istore 5, 2) := x_ins (j := 1) kk157 ia157 rfl
theorem i157_3 {xs : List Int32} : xtI (xTa xs) 157 3 = some (.iload 5, 2) := x_ins (j := 2) kk157 ia157 rfl
theorem i157_5 {xs : List Int32} : xtI (xTa xs) 157 5 = some (.iconst (-1), 1) := x_ins (j := 3) kk157 ia157 rfl
theorem i157_6 {xs : List Int32} : xtI (xTa xs) 157 6 = some (.if_icmp .eq 71, 3) := x_ins (j := 4) kk157 ia157 rfl
theorem i157_9 {xs : List Int32} : xtI (xTa xs) 157 9 = some (.iconst 0, 1) := x_ins (j := 5) kk157 ia157 rfl
theorem i157_10 {xs : List Int32} : xtI (xTa xs) 157 10 = some (.istore 6, 2) := x_ins (j := 6) kk157 ia157 rfl
theorem i157_12 {xs : List Int32} : xtI (xTa xs) 157 12 = some (.iload 6, 2) := x_ins (j := 7) kk157 ia157 rfl
theorem i157_14 {xs : List Int32} : xtI (xTa xs) 157 14 = some (.aload_n 0, 1) := x_ins (j := 8) kk157 ia157 rfl
theorem i157_15 {xs : List Int32} : xtI (xTa xs) 157 15 = some (.getfield 158, 3) := x_ins (j := 9) kk157 ia157 rfl
theorem i157_18 {xs : List Int32} : xtI (xTa xs) 157 18 = some (.if_icmp .ge 47, 3) := x_ins (j := 10) kk157 ia157 rfl
theorem i157_21 {xs : List Int32} : xtI (xTa xs) 157 21 = some (.aload_n 0, 1) := x_ins (j := 11) kk157 ia157 rfl
theorem i157_22 {xs : List Int32} : xtI (xTa xs) 157 22 = some (.getfield 13, 3) := x_ins (j := 12) kk157 ia157 rfl
theorem i157_25 {xs : List Int32} : xtI (xTa xs) 157 25 = some (.iload 6, 2) := x_ins (j := 13) kk157 ia157 rfl
theorem i157_27 {xs : List Int32} : xtI (xTa xs) 157 27 = some (.baload, 1) := x_ins (j := 14) kk157 ia157 rfl
theorem i157_28 {xs : List Int32} : xtI (xTa xs) 157 28 = some (.ifCond .ne 31, 3) := x_ins (j := 15) kk157 ia157 rfl
theorem i157_31 {xs : List Int32} : xtI (xTa xs) 157 31 = some (.aload_n 0, 1) := x_ins (j := 16) kk157 ia157 rfl
theorem i157_32 {xs : List Int32} : xtI (xTa xs) 157 32 = some (.getfield 17, 3) := x_ins (j := 17) kk157 ia157 rfl
theorem i157_35 {xs : List Int32} : xtI (xTa xs) 157 35 = some (.iload 6, 2) := x_ins (j := 18) kk157 ia157 rfl
theorem i157_37 {xs : List Int32} : xtI (xTa xs) 157 37 = some (.iaload, 1) := x_ins (j := 19) kk157 ia157 rfl
theorem i157_38 {xs : List Int32} : xtI (xTa xs) 157 38 = some (.iload 5, 2) := x_ins (j := 20) kk157 ia157 rfl
theorem i157_40 {xs : List Int32} : xtI (xTa xs) 157 40 = some (.if_icmp .ne 19, 3) := x_ins (j := 21) kk157 ia157 rfl
theorem i157_43 {xs : List Int32} : xtI (xTa xs) 157 43 = some (.aload_n 0, 1) := x_ins (j := 22) kk157 ia157 rfl
theorem i157_44 {xs : List Int32} : xtI (xTa xs) 157 44 = some (.iload 6, 2) := x_ins (j := 23) kk157 ia157 rfl
theorem i157_46 {xs : List Int32} : xtI (xTa xs) 157 46 = some (.aload_n 2, 1) := x_ins (j := 24) kk157 ia157 rfl
theorem i157_47 {xs : List Int32} : xtI (xTa xs) 157 47 = some (.iload_n 3, 1) := x_ins (j := 25) kk157 ia157 rfl
theorem i157_48 {xs : List Int32} : xtI (xTa xs) 157 48 = some (.iload 4, 2) := x_ins (j := 26) kk157 ia157 rfl
theorem i157_50 {xs : List Int32} : xtI (xTa xs) 157 50 = some (.invokevirtual 194, 3) := x_ins (j := 27) kk157 ia157 rfl
theorem i157_53 {xs : List Int32} : xtI (xTa xs) 157 53 = some (.ifCond .eq 6, 3) := x_ins (j := 28) kk157 ia157 rfl
theorem i157_56 {xs : List Int32} : xtI (xTa xs) 157 56 = some (.iload 6, 2) := x_ins (j := 29) kk157 ia157 rfl
theorem i157_58 {xs : List Int32} : xtI (xTa xs) 157 58 = some (.ireturn, 1) := x_ins (j := 30) kk157 ia157 rfl
theorem i157_59 {xs : List Int32} : xtI (xTa xs) 157 59 = some (.iinc 6 1, 3) := x_ins (j := 31) kk157 ia157 rfl
theorem i157_62 {xs : List Int32} : xtI (xTa xs) 157 62 = some (.goto (-50), 3) := x_ins (j := 32) kk157 ia157 rfl
theorem i157_65 {xs : List Int32} : xtI (xTa xs) 157 65 = some (.aload_n 0, 1) := x_ins (j := 33) kk157 ia157 rfl
theorem i157_66 {xs : List Int32} : xtI (xTa xs) 157 66 = some (.getfield 20, 3) := x_ins (j := 34) kk157 ia157 rfl
theorem i157_69 {xs : List Int32} : xtI (xTa xs) 157 69 = some (.iload 5, 2) := x_ins (j := 35) kk157 ia157 rfl
theorem i157_71 {xs : List Int32} : xtI (xTa xs) 157 71 = some (.iaload, 1) := x_ins (j := 36) kk157 ia157 rfl
theorem i157_72 {xs : List Int32} : xtI (xTa xs) 157 72 = some (.istore 5, 2) := x_ins (j := 37) kk157 ia157 rfl
theorem i157_74 {xs : List Int32} : xtI (xTa xs) 157 74 = some (.goto (-71), 3) := x_ins (j := 38) kk157 ia157 rfl
theorem i157_77 {xs : List Int32} : xtI (xTa xs) 157 77 = some (.iconst (-1), 1) := x_ins (j := 39) kk157 ia157 rfl
theorem i157_78 {xs : List Int32} : xtI (xTa xs) 157 78 = some (.ireturn, 1) := x_ins (j := 40) kk157 ia157 rfl
theorem kk158 : xK0.getD 158 [] = k158 := rfl
set_option maxRecDepth 100000 in
theorem ia158 : (k158.all fun e => decide (k158.lookup e.1 = some e.2)) = true := by decide +kernel
theorem i158_0 {xs : List Int32} : xtI (xTa xs) 158 0 = some (.aload_n 0, 1) := x_ins (j := 0) kk158 ia158 rfl
theorem i158_1 {xs : List Int32} : xtI (xTa xs) 158 1 = some (.getfield 29, 3) := x_ins (j := 1) kk158 ia158 rfl
theorem i158_4 {xs : List Int32} : xtI (xTa xs) 158 4 = some (.iload_n 1, 1) := x_ins (j := 2) kk158 ia158 rfl
theorem i158_5 {xs : List Int32} : xtI (xTa xs) 158 5 = some (.iaload, 1) := x_ins (j := 3) kk158 ia158 rfl
theorem i158_6 {xs : List Int32} : xtI (xTa xs) 158 6 = some (.iload 4, 2) := x_ins (j := 4) kk158 ia158 rfl
theorem i158_8 {xs : List Int32} : xtI (xTa xs) 158 8 = some (.if_icmp .ne 7, 3) := x_ins (j := 5) kk158 ia158 rfl
theorem i158_11 {xs : List Int32} : xtI (xTa xs) 158 11 = some (.iconst 1, 1) := x_ins (j := 6) kk158 ia158 rfl
theorem i158_12 {xs : List Int32} : xtI (xTa xs) 158 12 = some (.goto 4, 3) := x_ins (j := 7) kk158 ia158 rfl
theorem i158_15 {xs : List Int32} : xtI (xTa xs) 158 15 = some (.iconst 0, 1) := x_ins (j := 8) kk158 ia158 rfl
theorem i158_16 {xs : List Int32} : xtI (xTa xs) 158 16 = some (.istore 5, 2) := x_ins (j := 9) kk158 ia158 rfl
theorem i158_18 {xs : List Int32} : xtI (xTa xs) 158 18 = some (.iconst 0, 1) := x_ins (j := 10) kk158 ia158 rfl
theorem i158_19 {xs : List Int32} : xtI (xTa xs) 158 19 = some (.istore 6, 2) := x_ins (j := 11) kk158 ia158 rfl
theorem i158_21 {xs : List Int32} : xtI (xTa xs) 158 21 = some (.iload 6, 2) := x_ins (j := 12) kk158 ia158 rfl
theorem i158_23 {xs : List Int32} : xtI (xTa xs) 158 23 = some (.iload 4, 2) := x_ins (j := 13) kk158 ia158 rfl
theorem i158_25 {xs : List Int32} : xtI (xTa xs) 158 25 = some (.if_icmp .ge 42, 3) := x_ins (j := 14) kk158 ia158 rfl
theorem i158_28 {xs : List Int32} : xtI (xTa xs) 158 28 = some (.iload 5, 2) := x_ins (j := 15) kk158 ia158 rfl
theorem i158_30 {xs : List Int32} : xtI (xTa xs) 158 30 = some (.ifCond .eq 37, 3) := x_ins (j := 16) kk158 ia158 rfl
theorem i158_33 {xs : List Int32} : xtI (xTa xs) 158 33 = some (.aload_n 0, 1) := x_ins (j := 17) kk158 ia158 rfl
theorem i158_34 {xs : List Int32} : xtI (xTa xs) 158 34 = some (.getfield 26, 3) := x_ins (j := 18) kk158 ia158 rfl
theorem i158_37 {xs : List Int32} : xtI (xTa xs) 158 37 = some (.bipush 10, 2) := x_ins (j := 19) kk158 ia158 rfl
theorem i158_39 {xs : List Int32} : xtI (xTa xs) 158 39 = some (.iload_n 1, 1) := x_ins (j := 20) kk158 ia158 rfl
theorem i158_40 {xs : List Int32} : xtI (xTa xs) 158 40 = some (.imul, 1) := x_ins (j := 21) kk158 ia158 rfl
theorem i158_41 {xs : List Int32} : xtI (xTa xs) 158 41 = some (.iload 6, 2) := x_ins (j := 22) kk158 ia158 rfl
theorem i158_43 {xs : List Int32} : xtI (xTa xs) 158 43 = some (.iadd, 1) := x_ins (j := 23) kk158 ia158 rfl
theorem i158_44 {xs : List Int32} : xtI (xTa xs) 158 44 = some (.iaload, 1) := x_ins (j := 24) kk158 ia158 rfl
theorem i158_45 {xs : List Int32} : xtI (xTa xs) 158 45 = some (.aload_n 2, 1) := x_ins (j := 25) kk158 ia158 rfl
theorem i158_46 {xs : List Int32} : xtI (xTa xs) 158 46 = some (.iload_n 3, 1) := x_ins (j := 26) kk158 ia158 rfl
theorem i158_47 {xs : List Int32} : xtI (xTa xs) 158 47 = some (.iload 6, 2) := x_ins (j := 27) kk158 ia158 rfl
theorem i158_49 {xs : List Int32} : xtI (xTa xs) 158 49 = some (.iadd, 1) := x_ins (j := 28) kk158 ia158 rfl
theorem i158_50 {xs : List Int32} : xtI (xTa xs) 158 50 = some (.iaload, 1) := x_ins (j := 29) kk158 ia158 rfl
theorem i158_51 {xs : List Int32} : xtI (xTa xs) 158 51 = some (.if_icmp .ne 7, 3) := x_ins (j := 30) kk158 ia158 rfl
theorem i158_54 {xs : List Int32} : xtI (xTa xs) 158 54 = some (.iconst 1, 1) := x_ins (j := 31) kk158 ia158 rfl
theorem i158_55 {xs : List Int32} : xtI (xTa xs) 158 55 = some (.goto 4, 3) := x_ins (j := 32) kk158 ia158 rfl
theorem i158_58 {xs : List Int32} : xtI (xTa xs) 158 58 = some (.iconst 0, 1) := x_ins (j := 33) kk158 ia158 rfl
theorem i158_59 {xs : List Int32} : xtI (xTa xs) 158 59 = some (.istore 5, 2) := x_ins (j := 34) kk158 ia158 rfl
theorem i158_61 {xs : List Int32} : xtI (xTa xs) 158 61 = some (.iinc 6 1, 3) := x_ins (j := 35) kk158 ia158 rfl
theorem i158_64 {xs : List Int32} : xtI (xTa xs) 158 64 = some (.goto (-43), 3) := x_ins (j := 36) kk158 ia158 rfl
theorem i158_67 {xs : List Int32} : xtI (xTa xs) 158 67 = some (.iload 5, 2) := x_ins (j := 37) kk158 ia158 rfl
theorem i158_69 {xs : List Int32} : xtI (xTa xs) 158 69 = some (.ireturn, 1) := x_ins (j := 38) kk158 ia158 rfl
theorem kk159 : xK0.getD 159 [] = k159 := rfl
set_option maxRecDepth 100000 in
theorem ia159 : (k159.all fun e => decide (k159.lookup e.1 = some e.2)) = true := by decide +kernel
theorem i159_0 {xs : List Int32} : xtI (xTa xs) 159 0 = some (.iconst 0, 1) := x_ins (j := 0) kk159 ia159 rfl
theorem i159_1 {xs : List Int32} : xtI (xTa xs) 159 1 = some (.istore 4, 2) := x_ins (j := 1) kk159 ia159 rfl
theorem i159_3 {xs : List Int32} : xtI (xTa xs) 159 3 = some (.iload 4, 2) := x_ins (j := 2) kk159 ia159 rfl
theorem i159_5 {xs : List Int32} : xtI (xTa xs) 159 5 = some (.aload_n 0, 1) := x_ins (j := 3) kk159 ia159 rfl
theorem i159_6 {xs : List Int32} : xtI (xTa xs) 159 6 = some (.getfield 158, 3) := x_ins (j := 4) kk159 ia159 rfl
theorem i159_9 {xs : List Int32} : xtI (xTa xs) 159 9 = some (.if_icmp .ge 34, 3) := x_ins (j := 5) kk159 ia159 rfl
theorem i159_12 {xs : List Int32} : xtI (xTa xs) 159 12 = some (.aload_n 0, 1) := x_ins (j := 6) kk159 ia159 rfl
theorem i159_13 {xs : List Int32} : xtI (xTa xs) 159 13 = some (.getfield 13, 3) := x_ins (j := 7) kk159 ia159 rfl
theorem i159_16 {xs : List Int32} : xtI (xTa xs) 159 16 = some (.iload 4, 2) := x_ins (j := 8) kk159 ia159 rfl
theorem i159_18 {xs : List Int32} : xtI (xTa xs) 159 18 = some (.baload, 1) := x_ins (j := 9) kk159 ia159 rfl
theorem i159_19 {xs : List Int32} : xtI (xTa xs) 159 19 = some (.ifCond .eq 18, 3) := x_ins (j := 10) kk159 ia159 rfl
theorem i159_22 {xs : List Int32} : xtI (xTa xs) 159 22 = some (.aload_n 0, 1) := x_ins (j := 11) kk159 ia159 rfl
theorem i159_23 {xs : List Int32} : xtI (xTa xs) 159 23 = some (.iload 4, 2) := x_ins (j := 12) kk159 ia159 rfl
theorem i159_25 {xs : List Int32} : xtI (xTa xs) 159 25 = some (.aload_n 1, 1) := x_ins (j := 13) kk159 ia159 rfl
theorem i159_26 {xs : List Int32} : xtI (xTa xs) 159 26 = some (.iload_n 2, 1) := x_ins (j := 14) kk159 ia159 rfl
theorem i159_27 {xs : List Int32} : xtI (xTa xs) 159 27 = some (.iload_n 3, 1) := x_ins (j := 15) kk159 ia159 rfl
theorem i159_28 {xs : List Int32} : xtI (xTa xs) 159 28 = some (.invokevirtual 194, 3) := x_ins (j := 16) kk159 ia159 rfl
theorem i159_31 {xs : List Int32} : xtI (xTa xs) 159 31 = some (.ifCond .eq 6, 3) := x_ins (j := 17) kk159 ia159 rfl
theorem i159_34 {xs : List Int32} : xtI (xTa xs) 159 34 = some (.iload 4, 2) := x_ins (j := 18) kk159 ia159 rfl
theorem i159_36 {xs : List Int32} : xtI (xTa xs) 159 36 = some (.ireturn, 1) := x_ins (j := 19) kk159 ia159 rfl
theorem i159_37 {xs : List Int32} : xtI (xTa xs) 159 37 = some (.iinc 4 1, 3) := x_ins (j := 20) kk159 ia159 rfl
theorem i159_40 {xs : List Int32} : xtI (xTa xs) 159 40 = some (.goto (-37), 3) := x_ins (j := 21) kk159 ia159 rfl
theorem i159_43 {xs : List Int32} : xtI (xTa xs) 159 43 = some (.iconst (-1), 1) := x_ins (j := 22) kk159 ia159 rfl
theorem i159_44 {xs : List Int32} : xtI (xTa xs) 159 44 = some (.ireturn, 1) := x_ins (j := 23) kk159 ia159 rfl
theorem kk160 : xK0.getD 160 [] = k160 := rfl
set_option maxRecDepth 100000 in
theorem ia160 : (k160.all fun e => decide (k160.lookup e.1 = some e.2)) = true := by decide +kernel
theorem i160_0 {xs : List Int32} : xtI (xTa xs) 160 0 = some (.iload_n 1, 1) := x_ins (j := 0) kk160 ia160 rfl
theorem i160_1 {xs : List Int32} : xtI (xTa xs) 160 1 = some (.istore_n 2, 1) := x_ins (j := 1) kk160 ia160 rfl
theorem i160_2 {xs : List Int32} : xtI (xTa xs) 160 2 = some (.iload_n 2, 1) := x_ins (j := 2) kk160 ia160 rfl
theorem i160_3 {xs : List Int32} : xtI (xTa xs) 160 3 = some (.iconst (-1), 1) := x_ins (j := 3) kk160 ia160 rfl
theorem i160_4 {xs : List Int32} : xtI (xTa xs) 160 4 = some (.if_icmp .eq 22, 3) := x_ins (j := 4) kk160 ia160 rfl
theorem i160_7 {xs : List Int32} : xtI (xTa xs) 160 7 = some (.aload_n 0, 1) := x_ins (j := 5) kk160 ia160 rfl
theorem i160_8 {xs : List Int32} : xtI (xTa xs) 160 8 = some (.getfield 44, 3) := x_ins (j := 6) kk160 ia160 rfl
theorem i160_11 {xs : List Int32} : xtI (xTa xs) 160 11 = some (.iload_n 2, 1) := x_ins (j := 7) kk160 ia160 rfl
theorem i160_12 {xs : List Int32} : xtI (xTa xs) 160 12 = some (.iaload, 1) := x_ins (j := 8) kk160 ia160 rfl
theorem i160_13 {xs : List Int32} : xtI (xTa xs) 160 13 = some (.iconst (-1), 1) := x_ins (j := 9) kk160 ia160 rfl
theorem i160_14 {xs : List Int32} : xtI (xTa xs) 160 14 = some (.if_icmp .ne 12, 3) := x_ins (j := 10) kk160 ia160 rfl
theorem i160_17 {xs : List Int32} : xtI (xTa xs) 160 17 = some (.aload_n 0, 1) := x_ins (j := 11) kk160 ia160 rfl
theorem i160_18 {xs : List Int32} : xtI (xTa xs) 160 18 = some (.iload_n 2, 1) := x_ins (j := 12) kk160 ia160 rfl
theorem i160_19 {xs : List Int32} : xtI (xTa xs) 160 19 = some (.invokevirtual 198, 3) := x_ins (j := 13) kk160 ia160 rfl
theorem i160_22 {xs : List Int32} : xtI (xTa xs) 160 22 = some (.istore_n 2, 1) := x_ins (j := 14) kk160 ia160 rfl
theorem i160_23 {xs : List Int32} : xtI (xTa xs) 160 23 = some (.goto (-21), 3) := x_ins (j := 15) kk160 ia160 rfl
theorem i160_26 {xs : List Int32} : xtI (xTa xs) 160 26 = some (.iload_n 2, 1) := x_ins (j := 16) kk160 ia160 rfl
theorem i160_27 {xs : List Int32} : xtI (xTa xs) 160 27 = some (.ireturn, 1) := x_ins (j := 17) kk160 ia160 rfl
theorem kk161 : xK0.getD 161 [] = k161 := rfl
set_option maxRecDepth 100000 in
theorem ia161 : (k161.all fun e => decide (k161.lookup e.1 = some e.2)) = true := by decide +kernel
theorem i161_0 {xs : List Int32} : xtI (xTa xs) 161 0 = some (.iload_n 0, 1) := x_ins (j := 0) kk161 ia161 rfl
theorem i161_1 {xs : List Int32} : xtI (xTa xs) 161 1 = some (.invokestatic 165, 3) := x_ins (j := 1) kk161 ia161 rfl
theorem i161_4 {xs : List Int32} : xtI (xTa xs) 161 4 = some (.ifCond .ne 17, 3) := x_ins (j := 2) kk161 ia161 rfl
theorem i161_7 {xs : List Int32} : xtI (xTa xs) 161 7 = some (.iload_n 0, 1) := x_ins (j := 3) kk161 ia161 rfl
theorem i161_8 {xs : List Int32} : xtI (xTa xs) 161 8 = some (.invokestatic 168, 3) := x_ins (j := 4) kk161 ia161 rfl
theorem i161_11 {xs : List Int32} : xtI (xTa xs) 161 11 = some (.ifCond .ne 10, 3) := x_ins (j := 5) kk161 ia161 rfl
theorem i161_14 {xs : List Int32} : xtI (xTa xs) 161 14 = some (.iload_n 0, 1) := x_ins (j := 6) kk161 ia161 rfl
theorem i161_15 {xs : List Int32} : xtI (xTa xs) 161 15 = some (.invokestatic 171, 3) := x_ins (j := 7) kk161 ia161 rfl
theorem i161_18 {xs : List Int32} : xtI (xTa xs) 161 18 = some (.ifCond .eq 7, 3) := x_ins (j := 8) kk161 ia161 rfl
theorem i161_21 {xs : List Int32} : xtI (xTa xs) 161 21 = some (.iconst 1, 1) := x_ins (j := 9) kk161 ia161 rfl
theorem i161_22 {xs : List Int32} : xtI (xTa xs) 161 22 = some (.goto 4, 3) := x_ins (j := 10) kk161 ia161 rfl
theorem i161_25 {xs : List Int32} : xtI (xTa xs) 161 25 = some (.iconst 0, 1) := x_ins (j := 11) kk161 ia161 rfl
theorem i161_26 {xs : List Int32} : xtI (xTa xs) 161 26 = some (.ireturn, 1) := x_ins (j := 12) kk161 ia161 rfl
theorem kk162 : xK0.getD 162 [] = k162 := rfl
set_option maxRecDepth 100000 in
theorem ia162 : (k162.all fun e => decide (k162.lookup e.1 = some e.2)) = true := by decide +kernel
theorem i162_0 {xs : List Int32} : xtI (xTa xs) 162 0 = some (.iconst 0, 1) := x_ins (j := 0) kk162 ia162 rfl
theorem i162_1 {xs : List Int32} : xtI (xTa xs) 162 1 = some (.istore_n 3, 1) := x_ins (j := 1) kk162 ia162 rfl
theorem i162_2 {xs : List Int32} : xtI (xTa xs) 162 2 = some (.iload_n 1, 1) := x_ins (j := 2) kk162 ia162 rfl
theorem i162_3 {xs : List Int32} : xtI (xTa xs) 162 3 = some (.iload_n 3, 1) := x_ins (j := 3) kk162 ia162 rfl
theorem i162_4 {xs : List Int32} : xtI (xTa xs) 162 4 = some (.iadd, 1) := x_ins (j := 4) kk162 ia162 rfl
theorem i162_5 {xs : List Int32} : xtI (xTa xs) 162 5 = some (.iload_n 2, 1) := x_ins (j := 5) kk162 ia162 rfl
theorem i162_6 {xs : List Int32} : xtI (xTa xs) 162 6 = some (.if_icmp .ge 20, 3) := x_ins (j := 6) kk162 ia162 rfl
theorem i162_9 {xs : List Int32} : xtI (xTa xs) 162 9 = some (.aload_n 0, 1) := x_ins (j := 7) kk162 ia162 rfl
theorem i162_10 {xs : List Int32} : xtI (xTa xs) 162 10 = some (.iload_n 1, 1) := x_ins (j := 8) kk162 ia162 rfl
theorem i162_11 {xs : List Int32} : xtI (xTa xs) 162 11 = some (.iload_n 3, 1) := x_ins (j := 9) kk162 ia162 rfl
theorem i162_12 {xs : List Int32} : xtI (xTa xs) 162 12 = some (.iadd, 1) := x_ins (j := 10) kk162 ia162 rfl
theorem i162_13 {xs : List Int32} : xtI (xTa xs) 162 13 = some (.iaload, 1) := x_ins (j := 11) kk162 ia162 rfl
theorem i162_14 {xs : List Int32} : xtI (xTa xs) 162 14 = some (.invokestatic 202, 3) := x_ins (j := 12) kk162 ia162 rfl
theorem i162_17 {xs : List Int32} : xtI (xTa xs) 162 17 = some (.ifCond .eq 9, 3) := x_ins (j := 13) kk162 ia162 rfl
theorem i162_20 {xs : List Int32} : xtI (xTa xs) 162 20 = some (.iinc 3 1, 3) := x_ins (j := 14) kk162 ia162 rfl
theorem i162_23 {xs : List Int32} : xtI (xTa xs) 162 23 = some (.goto (-21), 3) := x_ins (j := 15) kk162 ia162 rfl
theorem i162_26 {xs : List Int32} : xtI (xTa xs) 162 26 = some (.iload_n 3, 1) := x_ins (j := 16) kk162 ia162 rfl
theorem i162_27 {xs : List Int32} : xtI (xTa xs) 162 27 = some (.iconst 1, 1) := x_ins (j := 17) kk162 ia162 rfl
theorem i162_28 {xs : List Int32} : xtI (xTa xs) 162 28 = some (.if_icmp .lt 18, 3) := x_ins (j := 18) kk162 ia162 rfl
theorem i162_31 {xs : List Int32} : xtI (xTa xs) 162 31 = some (.iload_n 3, 1) := x_ins (j := 19) kk162 ia162 rfl
theorem i162_32 {xs : List Int32} : xtI (xTa xs) 162 32 = some (.bipush 10, 2) := x_ins (j := 20) kk162 ia162 rfl
theorem i162_34 {xs : List Int32} : xtI (xTa xs) 162 34 = some (.if_icmp .gt 12, 3) := x_ins (j := 21) kk162 ia162 rfl
theorem i162_37 {xs : List Int32} : xtI (xTa xs) 162 37 = some (.aload_n 0, 1) := x_ins (j := 22) kk162 ia162 rfl
theorem i162_38 {xs : List Int32} : xtI (xTa xs) 162 38 = some (.iload_n 1, 1) := x_ins (j := 23) kk162 ia162 rfl
theorem i162_39 {xs : List Int32} : xtI (xTa xs) 162 39 = some (.iaload, 1) := x_ins (j := 24) kk162 ia162 rfl
theorem i162_40 {xs : List Int32} : xtI (xTa xs) 162 40 = some (.invokestatic 171, 3) := x_ins (j := 25) kk162 ia162 rfl
theorem i162_43 {xs : List Int32} : xtI (xTa xs) 162 43 = some (.ifCond .eq 7, 3) := x_ins (j := 26) kk162 ia162 rfl
theorem i162_46 {xs : List Int32} : xtI (xTa xs) 162 46 = some (.iconst 0, 1) := x_ins (j := 27) kk162 ia162 rfl
theorem i162_47 {xs : List Int32} : xtI (xTa xs) 162 47 = some (.goto 4, 3) := x_ins (j := 28) kk162 ia162 rfl
theorem i162_50 {xs : List Int32} : xtI (xTa xs) 162 50 = some (.iload_n 3, 1) := x_ins (j := 29) kk162 ia162 rfl
theorem i162_51 {xs : List Int32} : xtI (xTa xs) 162 51 = some (.ireturn, 1) := x_ins (j := 30) kk162 ia162 rfl
theorem kk163 : xK0.getD 163 [] = k163 := rfl
set_option maxRecDepth 100000 in
theorem ia163 : (k163.all fun e => decide (k163.lookup e.1 = some e.2)) = true := by decide +kernel
theorem i163_0 {xs : List Int32} : xtI (xTa xs) 163 0 = some (.aload_n 0, 1) := x_ins (j := 0) kk163 ia163 rfl
theorem i163_1 {xs : List Int32} : xtI (xTa xs) 163 1 = some (.iload_n 1, 1) := x_ins (j := 1) kk163 ia163 rfl
theorem i163_2 {xs : List Int32} : xtI (xTa xs) 163 2 = some (.iload_n 2, 1) := x_ins (j := 2) kk163 ia163 rfl
theorem i163_3 {xs : List Int32} : xtI (xTa xs) 163 3 = some (.invokestatic 205, 3) := x_ins (j := 3) kk163 ia163 rfl
theorem i163_6 {xs : List Int32} : xtI (xTa xs) 163 6 = some (.istore_n 3, 1) := x_ins (j := 4) kk163 ia163 rfl
theorem i163_7 {xs : List Int32} : xtI (xTa xs) 163 7 = some (.iload_n 3, 1) := x_ins (j := 5) kk163 ia163 rfl
theorem i163_8 {xs : List Int32} : xtI (xTa xs) 163 8 = some (.ifCond .eq 20, 3) := x_ins (j := 6) kk163 ia163 rfl
theorem i163_11 {xs : List Int32} : xtI (xTa xs) 163 11 = some (.iload_n 1, 1) := x_ins (j := 7) kk163 ia163 rfl
theorem i163_12 {xs : List Int32} : xtI (xTa xs) 163 12 = some (.iload_n 3, 1) := x_ins (j := 8) kk163 ia163 rfl
theorem i163_13 {xs : List Int32} : xtI (xTa xs) 163 13 = some (.iadd, 1) := x_ins (j := 9) kk163 ia163 rfl
theorem i163_14 {xs : List Int32} : xtI (xTa xs) 163 14 = some (.iload_n 2, 1) := x_ins (j := 10) kk163 ia163 rfl
theorem i163_15 {xs : List Int32} : xtI (xTa xs) 163 15 = some (.if_icmp .ge 13, 3) := x_ins (j := 11) kk163 ia163 rfl
theorem i163_18 {xs : List Int32} : xtI (xTa xs) 163 18 = some (.aload_n 0, 1) := x_ins (j := 12) kk163 ia163 rfl
theorem i163_19 {xs : List Int32} : xtI (xTa xs) 163 19 = some (.iload_n 1, 1) := x_ins (j := 13) kk163 ia163 rfl
theorem i163_20 {xs : List Int32} : xtI (xTa xs) 163 20 = some (.iload_n 3, 1) := x_ins (j := 14) kk163 ia163 rfl
theorem i163_21 {xs : List Int32} : xtI (xTa xs) 163 21 = some (.iadd, 1) := x_ins (j := 15) kk163 ia163 rfl
theorem i163_22 {xs : List Int32} : xtI (xTa xs) 163 22 = some (.iaload, 1) := x_ins (j := 16) kk163 ia163 rfl
theorem i163_23 {xs : List Int32} : xtI (xTa xs) 163 23 = some (.bipush 46, 2) := x_ins (j := 17) kk163 ia163 rfl
theorem i163_25 {xs : List Int32} : xtI (xTa xs) 163 25 = some (.if_icmp .eq 5, 3) := x_ins (j := 18) kk163 ia163 rfl
theorem i163_28 {xs : List Int32} : xtI (xTa xs) 163 28 = some (.iload_n 3, 1) := x_ins (j := 19) kk163 ia163 rfl
theorem i163_29 {xs : List Int32} : xtI (xTa xs) 163 29 = some (.ireturn, 1) := x_ins (j := 20) kk163 ia163 rfl
theorem i163_30 {xs : List Int32} : xtI (xTa xs) 163 30 = some (.aload_n 0, 1) := x_ins (j := 21) kk163 ia163 rfl
theorem i163_31 {xs : List Int32} : xtI (xTa xs) 163 31 = some (.iload_n 1, 1) := x_ins (j := 22) kk163 ia163 rfl
theorem i163_32 {xs : List Int32} : xtI (xTa xs) 163 32 = some (.iload_n 3, 1) := x_ins (j := 23) kk163 ia163 rfl
theorem i163_33 {xs : List Int32} : xtI (xTa xs) 163 33 = some (.iadd, 1) := x_ins (j := 24) kk163 ia163 rfl
theorem i163_34 {xs : List Int32} : xtI (xTa xs) 163 34 = some (.iconst 1, 1) := x_ins (j := 25) kk163 ia163 rfl
theorem i163_35 {xs : List Int32} : xtI (xTa xs) 163 35 = some (.iadd, 1) := x_ins (j := 26) kk163 ia163 rfl
theorem i163_36 {xs : List Int32} : xtI (xTa xs) 163 36 = some (.iload_n 2, 1) := x_ins (j := 27) kk163 ia163 rfl
theorem i163_37 {xs : List Int32} : xtI (xTa xs) 163 37 = some (.invokestatic 205, 3) := x_ins (j := 28) kk163 ia163 rfl
theorem i163_40 {xs : List Int32} : xtI (xTa xs) 163 40 = some (.istore 4, 2) := x_ins (j := 29) kk163 ia163 rfl
theorem i163_42 {xs : List Int32} : xtI (xTa xs) 163 42 = some (.iload 4, 2) := x_ins (j := 30) kk163 ia163 rfl
theorem i163_44 {xs : List Int32} : xtI (xTa xs) 163 44 = some (.ifCond .ne 7, 3) := x_ins (j := 31) kk163 ia163 rfl
theorem i163_47 {xs : List Int32} : xtI (xTa xs) 163 47 = some (.iconst 0, 1) := x_ins (j := 32) kk163 ia163 rfl
theorem i163_48 {xs : List Int32} : xtI (xTa xs) 163 48 = some (.goto 9, 3) := x_ins (j := 33) kk163 ia163 rfl
theorem i163_51 {xs : List Int32} : xtI (xTa xs) 163 51 = some (.iload_n 3, 1) := x_ins (j := 34) kk163 ia163 rfl
theorem i163_52 {xs : List Int32} : xtI (xTa xs) 163 52 = some (.iconst 1, 1) := x_ins (j := 35) kk163 ia163 rfl
theorem i163_53 {xs : List Int32} : xtI (xTa xs) 163 53 = some (.iadd, 1) := x_ins (j := 36) kk163 ia163 rfl
theorem i163_54 {xs : List Int32} : xtI (xTa xs) 163 54 = some (.iload 4, 2) := x_ins (j := 37) kk163 ia163 rfl
theorem i163_56 {xs : List Int32} : xtI (xTa xs) 163 56 = some (.iadd, 1) := x_ins (j := 38) kk163 ia163 rfl
theorem i163_57 {xs : List Int32} : xtI (xTa xs) 163 57 = some (.ireturn, 1) := x_ins (j := 39) kk163 ia163 rfl
theorem kk164 : xK0.getD 164 [] = k164 := rfl
set_option maxRecDepth 100000 in
theorem ia164 : (k164.all fun e => decide (k164.lookup e.1 = some e.2)) = true := by decide +kernel
theorem i164_0 {xs : List Int32} : xtI (xTa xs) 164 0 = some (.aload_n 2, 1) := x_ins (j := 0) kk164 ia164 rfl
theorem i164_1 {xs : List Int32} : xtI (xTa xs) 164 1 = some (.iload_n 3, 1) := x_ins (j := 1) kk164 ia164 rfl
theorem i164_2 {xs : List Int32} : xtI (xTa xs) 164 2 = some (.iload_n 3, 1) := x_ins (j := 2) kk164 ia164 rfl
theorem i164_3 {xs : List Int32} : xtI (xTa xs) 164 3 = some (.iload 4, 2) := x_ins (j := 3) kk164 ia164 rfl
theorem i164_5 {xs : List Int32} : xtI (xTa xs) 164 5 = some (.iadd, 1) := x_ins (j := 4) kk164 ia164 rfl
theorem i164_6 {xs : List Int32} : xtI (xTa xs) 164 6 = some (.invokestatic 205, 3) := x_ins (j := 5) kk164 ia164 rfl
theorem i164_9 {xs : List Int32} : xtI (xTa xs) 164 9 = some (.istore 5, 2) := x_ins (j := 6) kk164 ia164 rfl
theorem i164_11 {xs : List Int32} : xtI (xTa xs) 164 11 = some (.aload_n 0, 1) := x_ins (j := 7) kk164 ia164 rfl
theorem i164_12 {xs : List Int32} : xtI (xTa xs) 164 12 = some (.getfield 13, 3) := x_ins (j := 8) kk164 ia164 rfl
theorem i164_15 {xs : List Int32} : xtI (xTa xs) 164 15 = some (.iload_n 1, 1) := x_ins (j := 9) kk164 ia164 rfl
theorem i164_16 {xs : List Int32} : xtI (xTa xs) 164 16 = some (.baload, 1) := x_ins (j := 10) kk164 ia164 rfl
theorem i164_17 {xs : List Int32} : xtI (xTa xs) 164 17 = some (.ifCond .eq 7, 3) := x_ins (j := 11) kk164 ia164 rfl
theorem i164_20 {xs : List Int32} : xtI (xTa xs) 164 20 = some (.iload_n 1, 1) := x_ins (j := 12) kk164 ia164 rfl
theorem i164_21 {xs : List Int32} : xtI (xTa xs) 164 21 = some (.goto 9, 3) := x_ins (j := 13) kk164 ia164 rfl
theorem i164_24 {xs : List Int32} : xtI (xTa xs) 164 24 = some (.aload_n 0, 1) := x_ins (j := 14) kk164 ia164 rfl
theorem i164_25 {xs : List Int32} : xtI (xTa xs) 164 25 = some (.getfield 17, 3) := x_ins (j := 15) kk164 ia164 rfl
theorem i164_28 {xs : List Int32} : xtI (xTa xs) 164 28 = some (.iload_n 1, 1) := x_ins (j := 16) kk164 ia164 rfl
theorem i164_29 {xs : List Int32} : xtI (xTa xs) 164 29 = some (.iaload, 1) := x_ins (j := 17) kk164 ia164 rfl
theorem i164_30 {xs : List Int32} : xtI (xTa xs) 164 30 = some (.istore 6, 2) := x_ins (j := 18) kk164 ia164 rfl
theorem i164_32 {xs : List Int32} : xtI (xTa xs) 164 32 = some (.iload 5, 2) := x_ins (j := 19) kk164 ia164 rfl
theorem i164_34 {xs : List Int32} : xtI (xTa xs) 164 34 = some (.iload 4, 2) := x_ins (j := 20) kk164 ia164 rfl
theorem i164_36 {xs : List Int32} : xtI (xTa xs) 164 36 = some (.if_icmp .ne 34, 3) := x_ins (j := 21) kk164 ia164 rfl
theorem i164_39 {xs : List Int32} : xtI (xTa xs) 164 39 = some (.aload_n 2, 1) := x_ins (j := 22) kk164 ia164 rfl
theorem i164_40 {xs : List Int32} : xtI (xTa xs) 164 40 = some (.iload_n 3, 1) := x_ins (j := 23) kk164 ia164 rfl
theorem i164_41 {xs : List Int32} : xtI (xTa xs) 164 41 = some (.iaload, 1) := x_ins (j := 24) kk164 ia164 rfl
theorem i164_42 {xs : List Int32} : xtI (xTa xs) 164 42 = some (.invokestatic 165, 3) := x_ins (j := 25) kk164 ia164 rfl
theorem i164_45 {xs : List Int32} : xtI (xTa xs) 164 45 = some (.ifCond .eq 14, 3) := x_ins (j := 26) kk164 ia164 rfl
theorem i164_48 {xs : List Int32} : xtI (xTa xs) 164 48 = some (.aload_n 0, 1) := x_ins (j := 27) kk164 ia164 rfl
theorem i164_49 {xs : List Int32} : xtI (xTa xs) 164 49 = some (.aload_n 2, 1) := x_ins (j := 28) kk164 ia164 rfl
theorem i164_50 {xs : List Int32} : xtI (xTa xs) 164 50 = some (.iload_n 3, 1) := x_ins (j := 29) kk164 ia164 rfl
theorem i164_51 {xs : List Int32} : xtI (xTa xs) 164 51 = some (.iload 4, 2) := x_ins (j := 30) kk164 ia164 rfl
theorem i164_53 {xs : List Int32} : xtI (xTa xs) 164 53 = some (.invokevirtual 209, 3) := x_ins (j := 31) kk164 ia164 rfl
theorem i164_56 {xs : List Int32} : xtI (xTa xs) 164 56 = some (.goto 13, 3) := x_ins (j := 32) kk164 ia164 rfl
theorem i164_59 {xs : List Int32} : xtI (xTa xs) 164 59 = some (.aload_n 0, 1) := x_ins (j := 33) kk164 ia164 rfl
theorem i164_60 {xs : List Int32} : xtI (xTa xs) 164 60 = some (.iload 6, 2) := x_ins (j := 34) kk164 ia164 rfl
theorem i164_62 {xs : List Int32} : xtI (xTa xs) 164 62 = some (.aload_n 2, 1) := x_ins (j := 35) kk164 ia164 rfl
theorem i164_63 {xs : List Int32} : xtI (xTa xs) 164 63 = some (.iload_n 3, 1) := x_ins (j := 36) kk164 ia164 rfl
theorem i164_64 {xs : List Int32} : xtI (xTa xs) 164 64 = some (.iload 4, 2) := x_ins (j := 37) kk164 ia164 rfl
theorem i164_66 {xs : List Int32} : xtI (xTa xs) 164 66 = some (.invokevirtual 190, 3) := x_ins (j := 38) kk164 ia164 rfl
theorem i164_69 {xs : List Int32} : xtI (xTa xs) 164 69 = some (.ireturn, 1) := x_ins (j := 39) kk164 ia164 rfl
theorem i164_70 {xs : List Int32} : xtI (xTa xs) 164 70 = some (.aload_n 2, 1) := x_ins (j := 40) kk164 ia164 rfl
theorem i164_71 {xs : List Int32} : xtI (xTa xs) 164 71 = some (.iload_n 3, 1) := x_ins (j := 41) kk164 ia164 rfl
theorem i164_72 {xs : List Int32} : xtI (xTa xs) 164 72 = some (.iaload, 1) := x_ins (j := 42) kk164 ia164 rfl
theorem i164_73 {xs : List Int32} : xtI (xTa xs) 164 73 = some (.invokestatic 165, 3) := x_ins (j := 43) kk164 ia164 rfl
theorem i164_76 {xs : List Int32} : xtI (xTa xs) 164 76 = some (.ifCond .eq 14, 3) := x_ins (j := 44) kk164 ia164 rfl
theorem i164_79 {xs : List Int32} : xtI (xTa xs) 164 79 = some (.aload_n 0, 1) := x_ins (j := 45) kk164 ia164 rfl
theorem i164_80 {xs : List Int32} : xtI (xTa xs) 164 80 = some (.aload_n 2, 1) := x_ins (j := 46) kk164 ia164 rfl
theorem i164_81 {xs : List Int32} : xtI (xTa xs) 164 81 = some (.iload_n 3, 1) := x_ins (j := 47) kk164 ia164 rfl
theorem i164_82 {xs : List Int32} : xtI (xTa xs) 164 82 = some (.iload 5, 2) := x_ins (j := 48) kk164 ia164 rfl
theorem i164_84 {xs : List Int32} : xtI (xTa xs) 164 84 = some (.invokevirtual 209, 3) := x_ins (j := 49) kk164 ia164 rfl
theorem i164_87 {xs : List Int32} : xtI (xTa xs) 164 87 = some (.goto 4, 3) := x_ins (j := 50) kk164 ia164 rfl
theorem i164_90 {xs : List Int32} : xtI (xTa xs) 164 90 = some (.iconst (-1), 1) := x_ins (j := 51) kk164 ia164 rfl
theorem i164_91 {xs : List Int32} : xtI (xTa xs) 164 91 = some (.istore 7, 2) := x_ins (j := 52) kk164 ia164 rfl
theorem i164_93 {xs : List Int32} : xtI (xTa xs) 164 93 = some (.iload_n 3, 1) := x_ins (j := 53) kk164 ia164 rfl
theorem i164_94 {xs : List Int32} : xtI (xTa xs) 164 94 = some (.iload 5, 2) := x_ins (j := 54) kk164 ia164 rfl
theorem i164_96 {xs : List Int32} : xtI (xTa xs) 164 96 = some (.iadd, 1) := x_ins (j := 55) kk164 ia164 rfl
theorem i164_97 {xs : List Int32} : xtI (xTa xs) 164 97 = some (.iconst 1, 1) := x_ins (j := 56) kk164 ia164 rfl
theorem i164_98 {xs : List Int32} : xtI (xTa xs) 164 98 = some (.iadd, 1) := x_ins (j := 57) kk164 ia164 rfl
theorem i164_99 {xs : List Int32} : xtI (xTa xs) 164 99 = some (.istore 8, 2) := x_ins (j := 58) kk164 ia164 rfl
theorem i164_101 {xs : List Int32} : xtI (xTa xs) 164 101 = some (.iload 7, 2) := x_ins (j := 59) kk164 ia164 rfl
theorem i164_103 {xs : List Int32} : xtI (xTa xs) 164 103 = some (.iconst (-1), 1) := x_ins (j := 60) kk164 ia164 rfl
theorem i164_104 {xs : List Int32} : xtI (xTa xs) 164 104 = some (.if_icmp .eq 13, 3) := x_ins (j := 61) kk164 ia164 rfl
theorem i164_107 {xs : List Int32} : xtI (xTa xs) 164 107 = some (.aload_n 2, 1) := x_ins (j := 62) kk164 ia164 rfl
theorem i164_108 {xs : List Int32} : xtI (xTa xs) 164 108 = some (.iload 8, 2) := x_ins (j := 63) kk164 ia164 rfl
theorem i164_110 {xs : List Int32} : xtI (xTa xs) 164 110 = some (.iaload, 1) := x_ins (j := 64) kk164 ia164 rfl
theorem i164_111 {xs : List Int32} : xtI (xTa xs) 164 111 = some (.invokestatic 168, 3) := x_ins (j := 65) kk164 ia164 rfl
theorem i164_114 {xs : List Int32} : xtI (xTa xs) 164 114 = some (.ifCond .ne 7, 3) := x_ins (j := 66) kk164 ia164 rfl
theorem i164_117 {xs : List Int32} : xtI (xTa xs) 164 117 = some (.iconst (-1), 1) := x_ins (j := 67) kk164 ia164 rfl
theorem i164_118 {xs : List Int32} : xtI (xTa xs) 164 118 = some (.goto 19, 3) := x_ins (j := 68) kk164 ia164 rfl
theorem i164_121 {xs : List Int32} : xtI (xTa xs) 164 121 = some (.aload_n 0, 1) := x_ins (j := 69) kk164 ia164 rfl
theorem i164_122 {xs : List Int32} : xtI (xTa xs) 164 122 = some (.iload 7, 2) := x_ins (j := 70) kk164 ia164 rfl
theorem i164_124 {xs : List Int32} : xtI (xTa xs) 164 124 = some (.aload_n 2, 1) := x_ins (j := 71) kk164 ia164 rfl
theorem i164_125 {xs : List Int32} : xtI (xTa xs) 164 125 = some (.iload 8, 2) := x_ins (j := 72) kk164 ia164 rfl
theorem i164_127 {xs : List Int32} : xtI (xTa xs) 164 127 = some (.iload 4, 2) := x_ins (j := 73) kk164 ia164 rfl
theorem i164_129 {xs : List Int32} : xtI (xTa xs) 164 129 = some (.iload 5, 2) := x_ins (j := 74) kk164 ia164 rfl
theorem i164_131 {xs : List Int32} : xtI (xTa xs) 164 131 = some (.isub, 1) := x_ins (j := 75) kk164 ia164 rfl
theorem i164_132 {xs : List Int32} : xtI (xTa xs) 164 132 = some (.iconst 1, 1) := x_ins (j := 76) kk164 ia164 rfl
theorem i164_133 {xs : List Int32} : xtI (xTa xs) 164 133 = some (.isub, 1) := x_ins (j := 77) kk164 ia164 rfl
theorem i164_134 {xs : List Int32} : xtI (xTa xs) 164 134 = some (.invokevirtual 190, 3) := x_ins (j := 78) kk164 ia164 rfl
theorem i164_137 {xs : List Int32} : xtI (xTa xs) 164 137 = some (.ireturn, 1) := x_ins (j := 79) kk164 ia164 rfl
theorem kk165 : xK0.getD 165 [] = k165 := rfl
set_option maxRecDepth 100000 in
theorem ia165 : (k165.all fun e => decide (k165.lookup e.1 = some e.2)) = true := by decide +kernel
theorem i165_0 {xs : List Int32} : xtI (xTa xs) 165 0 = some (.aload_n 0, 1) := x_ins (j := 0) kk165 ia165 rfl
theorem i165_1 {xs : List Int32} : xtI (xTa xs) 165 1 = some (.getfield 146, 3) := x_ins (j := 1) kk165 ia165 rfl
theorem i165_4 {xs : List Int32} : xtI (xTa xs) 165 4 = some (.istore_n 2, 1) := x_ins (j := 2) kk165 ia165 rfl
theorem i165_5 {xs : List Int32} : xtI (xTa xs) 165 5 = some (.aload_n 0, 1) := x_ins (j := 3) kk165 ia165 rfl
theorem i165_6 {xs : List Int32} : xtI (xTa xs) 165 6 = some (.iconst 0, 1) := x_ins (j := 4) kk165 ia165 rfl
theorem i165_7 {xs : List Int32} : xtI (xTa xs) 165 7 = some (.putfield 146, 3) := x_ins (j := 5) kk165 ia165 rfl
theorem i165_10 {xs : List Int32} : xtI (xTa xs) 165 10 = some (.aload_n 0, 1) := x_ins (j := 6) kk165 ia165 rfl
theorem i165_11 {xs : List Int32} : xtI (xTa xs) 165 11 = some (.iload_n 1, 1) := x_ins (j := 7) kk165 ia165 rfl
theorem i165_12 {xs : List Int32} : xtI (xTa xs) 165 12 = some (.invokevirtual 161, 3) := x_ins (j := 8) kk165 ia165 rfl
theorem i165_15 {xs : List Int32} : xtI (xTa xs) 165 15 = some (.ifCond .ne 6, 3) := x_ins (j := 9) kk165 ia165 rfl
theorem i165_18 {xs : List Int32} : xtI (xTa xs) 165 18 = some (.bipush (-9), 2) := x_ins (j := 10) kk165 ia165 rfl
theorem i165_20 {xs : List Int32} : xtI (xTa xs) 165 20 = some (.ireturn, 1) := x_ins (j := 11) kk165 ia165 rfl
theorem i165_21 {xs : List Int32} : xtI (xTa xs) 165 21 = some (.iload_n 2, 1) := x_ins (j := 12) kk165 ia165 rfl
theorem i165_22 {xs : List Int32} : xtI (xTa xs) 165 22 = some (.ifCond .le 30, 3) := x_ins (j := 13) kk165 ia165 rfl
theorem i165_25 {xs : List Int32} : xtI (xTa xs) 165 25 = some (.aload_n 0, 1) := x_ins (j := 14) kk165 ia165 rfl
theorem i165_26 {xs : List Int32} : xtI (xTa xs) 165 26 = some (.getfield 9, 3) := x_ins (j := 15) kk165 ia165 rfl
theorem i165_29 {xs : List Int32} : xtI (xTa xs) 165 29 = some (.iconst 0, 1) := x_ins (j := 16) kk165 ia165 rfl
theorem i165_30 {xs : List Int32} : xtI (xTa xs) 165 30 = some (.iload_n 2, 1) := x_ins (j := 17) kk165 ia165 rfl
theorem i165_31 {xs : List Int32} : xtI (xTa xs) 165 31 = some (.invokestatic 212, 3) := x_ins (j := 18) kk165 ia165 rfl
theorem i165_34 {xs : List Int32} : xtI (xTa xs) 165 34 = some (.iload_n 2, 1) := x_ins (j := 19) kk165 ia165 rfl
theorem i165_35 {xs : List Int32} : xtI (xTa xs) 165 35 = some (.if_icmp .ne 17, 3) := x_ins (j := 20) kk165 ia165 rfl
theorem i165_38 {xs : List Int32} : xtI (xTa xs) 165 38 = some (.aload_n 0, 1) := x_ins (j := 21) kk165 ia165 rfl
theorem i165_39 {xs : List Int32} : xtI (xTa xs) 165 39 = some (.iload_n 1, 1) := x_ins (j := 22) kk165 ia165 rfl
theorem i165_40 {xs : List Int32} : xtI (xTa xs) 165 40 = some (.aload_n 0, 1) := x_ins (j := 23) kk165 ia165 rfl
theorem i165_41 {xs : List Int32} : xtI (xTa xs) 165 41 = some (.getfield 9, 3) := x_ins (j := 24) kk165 ia165 rfl
theorem i165_44 {xs : List Int32} : xtI (xTa xs) 165 44 = some (.iconst 0, 1) := x_ins (j := 25) kk165 ia165 rfl
theorem i165_45 {xs : List Int32} : xtI (xTa xs) 165 45 = some (.iload_n 2, 1) := x_ins (j := 26) kk165 ia165 rfl
theorem i165_46 {xs : List Int32} : xtI (xTa xs) 165 46 = some (.invokevirtual 215, 3) := x_ins (j := 27) kk165 ia165 rfl
theorem i165_49 {xs : List Int32} : xtI (xTa xs) 165 49 = some (.goto 4, 3) := x_ins (j := 28) kk165 ia165 rfl
theorem i165_52 {xs : List Int32} : xtI (xTa xs) 165 52 = some (.iconst (-1), 1) := x_ins (j := 29) kk165 ia165 rfl
theorem i165_53 {xs : List Int32} : xtI (xTa xs) 165 53 = some (.ireturn, 1) := x_ins (j := 30) kk165 ia165 rfl
theorem kk166 : xK0.getD 166 [] = k166 := rfl
set_option maxRecDepth 100000 in
theorem ia166 : (k166.all fun e => decide (k166.lookup e.1 = some e.2)) = true := by decide +kernel
theorem i166_0 {xs : List Int32} : xtI (xTa xs) 166 0 = some (.aload_n 0, 1) := x_ins (j := 0) kk166 ia166 rfl
theorem i166_1 {xs : List Int32} : xtI (xTa xs) 166 1 = some (.getfield 218, 3) := x_ins (j := 1) kk166 ia166 rfl
theorem i166_4 {xs : List Int32} : xtI (xTa xs) 166 4 = some (.ifCond .ne 13, 3) := x_ins (j := 2) kk166 ia166 rfl
theorem i166_7 {xs : List Int32} : xtI (xTa xs) 166 7 = some (.aload_n 0, 1) := x_ins (j := 3) kk166 ia166 rfl
theorem i166_8 {xs : List Int32} : xtI (xTa xs) 166 8 = some (.iload_n 1, 1) := x_ins (j := 4) kk166 ia166 rfl
theorem i166_9 {xs : List Int32} : xtI (xTa xs) 166 9 = some (.putfield 218, 3) := x_ins (j := 5) kk166 ia166 rfl
theorem i166_12 {xs : List Int32} : xtI (xTa xs) 166 12 = some (.aload_n 0, 1) := x_ins (j := 6) kk166 ia166 rfl
theorem i166_13 {xs : List Int32} : xtI (xTa xs) 166 13 = some (.iload_n 2, 1) := x_ins (j := 7) kk166 ia166 rfl
theorem i166_14 {xs : List Int32} : xtI (xTa xs) 166 14 = some (.putfield 221, 3) := x_ins (j := 8) kk166 ia166 rfl
theorem i166_17 {xs : List Int32} : xtI (xTa xs) 166 17 = some (.return_, 1) := x_ins (j := 9) kk166 ia166 rfl
theorem kk167 : xK0.getD 167 [] = k167 := rfl
set_option maxRecDepth 100000 in
theorem ia167 : (k167.all fun e => decide (k167.lookup e.1 = some e.2)) = true := by decide +kernel
theorem i167_0 {xs : List Int32} : xtI (xTa xs) 167 0 = some (.aload_n 0, 1) := x_ins (j := 0) kk167 ia167 rfl
theorem i167_1 {xs : List Int32} : xtI (xTa xs) 167 1 = some (.getfield 41, 3) := x_ins (j := 1) kk167 ia167 rfl
theorem i167_4 {xs : List Int32} : xtI (xTa xs) 167 4 = some (.sipush 24000, 3) := x_ins (j := 2) kk167 ia167 rfl
theorem i167_7 {xs : List Int32} : xtI (xTa xs) 167 7 = some (.iload_n 1, 1) := x_ins (j := 3) kk167 ia167 rfl
theorem i167_8 {xs : List Int32} : xtI (xTa xs) 167 8 = some (.iadd, 1) := x_ins (j := 4) kk167 ia167 rfl
theorem i167_9 {xs : List Int32} : xtI (xTa xs) 167 9 = some (.iaload, 1) := x_ins (j := 5) kk167 ia167 rfl
theorem i167_10 {xs : List Int32} : xtI (xTa xs) 167 10 = some (.ireturn, 1) := x_ins (j := 6) kk167 ia167 rfl
theorem kk168 : xK0.getD 168 [] = k168 := rfl
set_option maxRecDepth 100000 in
theorem ia168 : (k168.all fun e => decide (k168.lookup e.1 = some e.2)) = true := by decide +kernel
theorem i168_0 {xs : List Int32} : xtI (xTa xs) 168 0 = some (.iload_n 1, 1) := x_ins (j := 0) kk168 ia168 rfl
theorem i168_1 {xs : List Int32} : xtI (xTa xs) 168 1 = some (.iload 4, 2) := x_ins (j := 1) kk168 ia168 rfl
theorem i168_3 {xs : List Int32} : xtI (xTa xs) 168 3 = some (.iadd, 1) := x_ins (j := 2) kk168 ia168 rfl
theorem i168_4 {xs : List Int32} : xtI (xTa xs) 168 4 = some (.aload_n 0, 1) := x_ins (j := 3) kk168 ia168 rfl
theorem i168_5 {xs : List Int32} : xtI (xTa xs) 168 5 = some (.getfield 224, 3) := x_ins (j := 4) kk168 ia168 rfl
theorem i168_8 {xs : List Int32} : xtI (xTa xs) 168 8 = some (.if_icmp .gt 7, 3) := x_ins (j := 5) kk168 ia168 rfl
theorem i168_11 {xs : List Int32} : xtI (xTa xs) 168 11 = some (.iconst 1, 1) := x_ins (j := 6) kk168 ia168 rfl
theorem i168_12 {xs : List Int32} : xtI (xTa xs) 168 12 = some (.goto 4, 3) := x_ins (j := 7) kk168 ia168 rfl
theorem i168_15 {xs : List Int32} : xtI (xTa xs) 168 15 = some (.iconst 0, 1) := x_ins (j := 8) kk168 ia168 rfl
theorem i168_16 {xs : List Int32} : xtI (xTa xs) 168 16 = some (.istore 5, 2) := x_ins (j := 9) kk168 ia168 rfl
theorem i168_18 {xs : List Int32} : xtI (xTa xs) 168 18 = some (.iconst 0, 1) := x_ins (j := 10) kk168 ia168 rfl
theorem i168_19 {xs : List Int32} : xtI (xTa xs) 168 19 = some (.istore 6, 2) := x_ins (j := 11) kk168 ia168 rfl
theorem i168_21 {xs : List Int32} : xtI (xTa xs) 168 21 = some (.iload 6, 2) := x_ins (j := 12) kk168 ia168 rfl
theorem i168_23 {xs : List Int32} : xtI (xTa xs) 168 23 = some (.iload 4, 2) := x_ins (j := 13) kk168 ia168 rfl
theorem i168_25 {xs : List Int32} : xtI (xTa xs) 168 25 = some (.if_icmp .ge 49, 3) := x_ins (j := 14) kk168 ia168 rfl
theorem i168_28 {xs : List Int32} : xtI (xTa xs) 168 28 = some (.iload 5, 2) := x_ins (j := 15) kk168 ia168 rfl
theorem i168_30 {xs : List Int32} : xtI (xTa xs) 168 30 = some (.ifCond .eq 44, 3) := x_ins (j := 16) kk168 ia168 rfl
theorem i168_33 {xs : List Int32} : xtI (xTa xs) 168 33 = some (.aload_n 0, 1) := x_ins (j := 17) kk168 ia168 rfl
theorem i168_34 {xs : List Int32} : xtI (xTa xs) 168 34 = some (.iload_n 1, 1) := x_ins (j := 18) kk168 ia168 rfl
theorem i168_35 {xs : List Int32} : xtI (xTa xs) 168 35 = some (.iload 6, 2) := x_ins (j := 19) kk168 ia168 rfl
theorem i168_37 {xs : List Int32} : xtI (xTa xs) 168 37 = some (.iadd, 1) := x_ins (j := 20) kk168 ia168 rfl
theorem i168_38 {xs : List Int32} : xtI (xTa xs) 168 38 = some (.invokevirtual 227, 3) := x_ins (j := 21) kk168 ia168 rfl
theorem i168_41 {xs : List Int32} : xtI (xTa xs) 168 41 = some (.lload_n 2, 1) := x_ins (j := 22) kk168 ia168 rfl
theorem i168_42 {xs : List Int32} : xtI (xTa xs) 168 42 = some (.bipush 8, 2) := x_ins (j := 23) kk168 ia168 rfl
theorem i168_44 {xs : List Int32} : xtI (xTa xs) 168 44 = some (.iload 4, 2) := x_ins (j := 24) kk168 ia168 rfl
theorem i168_46 {xs : List Int32} : xtI (xTa xs) 168 46 = some (.iconst 1, 1) := x_ins (j := 25) kk168 ia168 rfl
theorem i168_47 {xs : List Int32} : xtI (xTa xs) 168 47 = some (.isub, 1) := x_ins (j := 26) kk168 ia168 rfl
theorem i168_48 {xs : List Int32} : xtI (xTa xs) 168 48 = some (.iload 6, 2) := x_ins (j := 27) kk168 ia168 rfl
theorem i168_50 {xs : List Int32} : xtI (xTa xs) 168 50 = some (.isub, 1) := x_ins (j := 28) kk168 ia168 rfl
theorem i168_51 {xs : List Int32} : xtI (xTa xs) 168 51 = some (.imul, 1) := x_ins (j := 29) kk168 ia168 rfl
theorem i168_52 {xs : List Int32} : xtI (xTa xs) 168 52 = some (.lshr, 1) := x_ins (j := 30) kk168 ia168 rfl
theorem i168_53 {xs : List Int32} : xtI (xTa xs) 168 53 = some (.ldc2_w 230, 3) := x_ins (j := 31) kk168 ia168 rfl
theorem i168_56 {xs : List Int32} : xtI (xTa xs) 168 56 = some (.land, 1) := x_ins (j := 32) kk168 ia168 rfl
theorem i168_57 {xs : List Int32} : xtI (xTa xs) 168 57 = some (.l2i, 1) := x_ins (j := 33) kk168 ia168 rfl
theorem i168_58 {xs : List Int32} : xtI (xTa xs) 168 58 = some (.if_icmp .ne 7, 3) := x_ins (j := 34) kk168 ia168 rfl
theorem i168_61 {xs : List Int32} : xtI (xTa xs) 168 61 = some (.iconst 1, 1) := x_ins (j := 35) kk168 ia168 rfl
theorem i168_62 {xs : List Int32} : xtI (xTa xs) 168 62 = some (.goto 4, 3) := x_ins (j := 36) kk168 ia168 rfl
theorem i168_65 {xs : List Int32} : xtI (xTa xs) 168 65 = some (.iconst 0, 1) := x_ins (j := 37) kk168 ia168 rfl
theorem i168_66 {xs : List Int32} : xtI (xTa xs) 168 66 = some (.istore 5, 2) := x_ins (j := 38) kk168 ia168 rfl
theorem i168_68 {xs : List Int32} : xtI (xTa xs) 168 68 = some (.iinc 6 1, 3) := x_ins (j := 39) kk168 ia168 rfl
theorem i168_71 {xs : List Int32} : xtI (xTa xs) 168 71 = some (.goto (-50), 3) := x_ins (j := 40) kk168 ia168 rfl
theorem i168_74 {xs : List Int32} : xtI (xTa xs) 168 74 = some (.iload 5, 2) := x_ins (j := 41) kk168 ia168 rfl
theorem i168_76 {xs : List Int32} : xtI (xTa xs) 168 76 = some (.ireturn, 1) := x_ins (j := 42) kk168 ia168 rfl
theorem kk169 : xK0.getD 169 [] = k169 := rfl
set_option maxRecDepth 100000 in
theorem ia169 : (k169.all fun e => decide (k169.lookup e.1 = some e.2)) = true := by decide +kernel
theorem i169_0 {xs : List Int32} : xtI (xTa xs) 169 0 = some (.iload_n 1, 1) := x_ins (j := 0) kk169 ia169 rfl
theorem i169_1 {xs : List Int32} : xtI (xTa xs) 169 1 = some (.istore_n 2, 1) := x_ins (j := 1) kk169 ia169 rfl
theorem i169_2 {xs : List Int32} : xtI (xTa xs) 169 2 = some (.iload_n 2, 1) := x_ins (j := 2) kk169 ia169 rfl
theorem i169_3 {xs : List Int32} : xtI (xTa xs) 169 3 = some (.aload_n 0, 1) := x_ins (j := 3) kk169 ia169 rfl
theorem i169_4 {xs : List Int32} : xtI (xTa xs) 169 4 = some (.getfield 224, 3) := x_ins (j := 4) kk169 ia169 rfl
theorem i169_7 {xs : List Int32} : xtI (xTa xs) 169 7 = some (.if_icmp .ge 19, 3) := x_ins (j := 5) kk169 ia169 rfl
theorem i169_10 {xs : List Int32} : xtI (xTa xs) 169 10 = some (.aload_n 0, 1) := x_ins (j := 6) kk169 ia169 rfl
theorem i169_11 {xs : List Int32} : xtI (xTa xs) 169 11 = some (.iload_n 2, 1) := x_ins (j := 7) kk169 ia169 rfl
theorem i169_12 {xs : List Int32} : xtI (xTa xs) 169 12 = some (.invokevirtual 227, 3) := x_ins (j := 8) kk169 ia169 rfl
theorem i169_15 {xs : List Int32} : xtI (xTa xs) 169 15 = some (.bipush 32, 2) := x_ins (j := 9) kk169 ia169 rfl
theorem i169_17 {xs : List Int32} : xtI (xTa xs) 169 17 = some (.if_icmp .ne 9, 3) := x_ins (j := 10) kk169 ia169 rfl
theorem i169_20 {xs : List Int32} : xtI (xTa xs) 169 20 = some (.iinc 2 1, 3) := x_ins (j := 11) kk169 ia169 rfl
theorem i169_23 {xs : List Int32} : xtI (xTa xs) 169 23 = some (.goto (-21), 3) := x_ins (j := 12) kk169 ia169 rfl
theorem i169_26 {xs : List Int32} : xtI (xTa xs) 169 26 = some (.iload_n 2, 1) := x_ins (j := 13) kk169 ia169 rfl
theorem i169_27 {xs : List Int32} : xtI (xTa xs) 169 27 = some (.ireturn, 1) := x_ins (j := 14) kk169 ia169 rfl
theorem kk170 : xK0.getD 170 [] = k170 := rfl
set_option maxRecDepth 100000 in
theorem ia170 : (k170.all fun e => decide (k170.lookup e.1 = some e.2)) = true := by decide +kernel
theorem i170_0 {xs : List Int32} : xtI (xTa xs) 170 0 = some (.iload_n 1, 1) := x_ins (j := 0) kk170 ia170 rfl
theorem i170_1 {xs : List Int32} : xtI (xTa xs) 170 1 = some (.istore_n 2, 1) := x_ins (j := 1) kk170 ia170 rfl
theorem i170_2 {xs : List Int32} : xtI (xTa xs) 170 2 = some (.iload_n 2, 1) := x_ins (j := 2) kk170 ia170 rfl
theorem i170_3 {xs : List Int32} : xtI (xTa xs) 170 3 = some (.aload_n 0, 1) := x_ins (j := 3) kk170 ia170 rfl
theorem i170_4 {xs : List Int32} : xtI (xTa xs) 170 4 = some (.getfield 224, 3) := x_ins (j := 4) kk170 ia170 rfl
theorem i170_7 {xs : List Int32} : xtI (xTa xs) 170 7 = some (.if_icmp .ge 19, 3) := x_ins (j := 5) kk170 ia170 rfl
theorem i170_10 {xs : List Int32} : xtI (xTa xs) 170 10 = some (.aload_n 0, 1) := x_ins (j := 6) kk170 ia170 rfl
theorem i170_11 {xs : List Int32} : xtI (xTa xs) 170 11 = some (.iload_n 2, 1) := x_ins (j := 7) kk170 ia170 rfl
theorem i170_12 {xs : List Int32} : xtI (xTa xs) 170 12 = some (.invokevirtual 227, 3) := x_ins (j := 8) kk170 ia170 rfl
theorem i170_15 {xs : List Int32} : xtI (xTa xs) 170 15 = some (.bipush 32, 2) := x_ins (j := 9) kk170 ia170 rfl
theorem i170_17 {xs : List Int32} : xtI (xTa xs) 170 17 = some (.if_icmp .eq 9, 3) := x_ins (j := 10) kk170 ia170 rfl
theorem i170_20 {xs : List Int32} : xtI (xTa xs) 170 20 = some (.iinc 2 1, 3) := x_ins (j := 11) kk170 ia170 rfl
theorem i170_23 {xs : List Int32} : xtI (xTa xs) 170 23 = some (.goto (-21), 3) := x_ins (j := 12) kk170 ia170 rfl
theorem i170_26 {xs : List Int32} : xtI (xTa xs) 170 26 = some (.iload_n 2, 1) := x_ins (j := 13) kk170 ia170 rfl
theorem i170_27 {xs : List Int32} : xtI (xTa xs) 170 27 = some (.ireturn, 1) := x_ins (j := 14) kk170 ia170 rfl
theorem kk171 : xK0.getD 171 [] = k171 := rfl
set_option maxRecDepth 100000 in
theorem ia171 : (k171.all fun e => decide (k171.lookup e.1 = some e.2)) = true := by decide +kernel
theorem i171_0 {xs : List Int32} : xtI (xTa xs) 171 0 = some (.aload_n 0, 1) := x_ins (j := 0) kk171 ia171 rfl
theorem i171_1 {xs : List Int32} : xtI (xTa xs) 171 1 = some (.iload_n 1, 1) := x_ins (j := 1) kk171 ia171 rfl
theorem i171_2 {xs : List Int32} : xtI (xTa xs) 171 2 = some (.ldc2_w 232, 3) := x_ins (j := 2) kk171 ia171 rfl
theorem i171_5 {xs : List Int32} : xtI (xTa xs) 171 5 = some (.bipush 6, 2) := x_ins (j := 3) kk171 ia171 rfl
theorem i171_7 {xs : List Int32} : xtI (xTa xs) 171 7 = some (.invokevirtual 234, 3) := x_ins (j := 4) kk171 ia171 rfl
theorem i171_10 {xs : List Int32} : xtI (xTa xs) 171 10 = some (.ifCond .eq 108, 3) := x_ins (j := 5) kk171 ia171 rfl
theorem i171_13 {xs : List Int32} : xtI (xTa xs) 171 13 = some (.iconst 1, 1) := x_ins (j := 6) kk171 ia171 rfl
theorem i171_14 {xs : List Int32} : xtI (xTa xs) 171 14 = some (.istore_n 2, 1) := x_ins (j := 7) kk171 ia171 rfl
theorem i171_15 {xs : List Int32} : xtI (xTa xs) 171 15 = some (.iload_n 1, 1) := x_ins (j := 8) kk171 ia171 rfl
theorem i171_16 {xs : List Int32} : xtI (xTa xs) 171 16 = some (.bipush 6, 2) := x_ins (j := 9) kk171 ia171 rfl
theorem i171_18 {xs : List Int32} : xtI (xTa xs) 171 18 = some (.iadd, 1) := x_ins (j := 10) kk171 ia171 rfl
theorem i171_19 {xs : List Int32} : xtI (xTa xs) 171 19 = some (.istore_n 3, 1) := x_ins (j := 11) kk171 ia171 rfl
theorem i171_20 {xs : List Int32} : xtI (xTa xs) 171 20 = some (.iload_n 3, 1) := x_ins (j := 12) kk171 ia171 rfl
theorem i171_21 {xs : List Int32} : xtI (xTa xs) 171 21 = some (.aload_n 0, 1) := x_ins (j := 13) kk171 ia171 rfl
theorem i171_22 {xs : List Int32} : xtI (xTa xs) 171 22 = some (.getfield 224, 3) := x_ins (j := 14) kk171 ia171 rfl
theorem i171_25 {xs : List Int32} : xtI (xTa xs) 171 25 = some (.if_icmp .ge 45, 3) := x_ins (j := 15) kk171 ia171 rfl
theorem i171_28 {xs : List Int32} : xtI (xTa xs) 171 28 = some (.iload_n 2, 1) := x_ins (j := 16) kk171 ia171 rfl
theorem i171_29 {xs : List Int32} : xtI (xTa xs) 171 29 = some (.ifCond .le 41, 3) := x_ins (j := 17) kk171 ia171 rfl
theorem i171_32 {xs : List Int32} : xtI (xTa xs) 171 32 = some (.iload_n 2, 1) := x_ins (j := 18) kk171 ia171 rfl
theorem i171_33 {xs : List Int32} : xtI (xTa xs) 171 33 = some (.aload_n 0, 1) := x_ins (j := 19) kk171 ia171 rfl
theorem i171_34 {xs : List Int32} : xtI (xTa xs) 171 34 = some (.iload_n 3, 1) := x_ins (j := 20) kk171 ia171 rfl
theorem i171_35 {xs : List Int32} : xtI (xTa xs) 171 35 = some (.invokevirtual 227, 3) := x_ins (j := 21) kk171 ia171 rfl
theorem i171_38 {xs : List Int32} : xtI (xTa xs) 171 38 = some (.bipush 123, 2) := x_ins (j := 22) kk171 ia171 rfl
theorem i171_40 {xs : List Int32} : xtI (xTa xs) 171 40 = some (.if_icmp .ne 7, 3) := x_ins (j := 23) kk171 ia171 rfl
theorem i171_43 {xs : List Int32} : xtI (xTa xs) 171 43 = some (.iconst 1, 1) := x_ins (j := 24) kk171 ia171 rfl
theorem i171_44 {xs : List Int32} : xtI (xTa xs) 171 44 = some (.goto 18, 3) := x_ins (j := 25) kk171 ia171 rfl
theorem i171_47 {xs : List Int32} : xtI (xTa xs) 171 47 = some (.aload_n 0, 1) := x_ins (j := 26) kk171 ia171 rfl
theorem i171_48 {xs : List Int32} : xtI (xTa xs) 171 48 = some (.iload_n 3, 1) := x_ins (j := 27) kk171 ia171 rfl
theorem i171_49 {xs : List Int32} : xtI (xTa xs) 171 49 = some (.invokevirtual 227, 3) := x_ins (j := 28) kk171 ia171 rfl
theorem i171_52 {xs : List Int32} : xtI (xTa xs) 171 52 = some (.bipush 125, 2) := x_ins (j := 29) kk171 ia171 rfl
theorem i171_54 {xs : List Int32} : xtI (xTa xs) 171 54 = some (.if_icmp .ne 7, 3) := x_ins (j := 30) kk171 ia171 rfl
theorem i171_57 {xs : List Int32} : xtI (xTa xs) 171 57 = some (.iconst (-1), 1) := x_ins (j := 31) kk171 ia171 rfl
theorem i171_58 {xs : List Int32} : xtI (xTa xs) 171 58 = some (.goto 4, 3) := x_ins (j := 32) kk171 ia171 rfl
theorem i171_61 {xs : List Int32} : xtI (xTa xs) 171 61 = some (.iconst 0, 1) := x_ins (j := 33) kk171 ia171 rfl
theorem i171_62 {xs : List Int32} : xtI (xTa xs) 171 62 = some (.iadd, 1) := x_ins (j := 34) kk171 ia171 rfl
theorem i171_63 {xs : List Int32} : xtI (xTa xs) 171 63 = some (.istore_n 2, 1) := x_ins (j := 35) kk171 ia171 rfl
theorem i171_64 {xs : List Int32} : xtI (xTa xs) 171 64 = some (.iinc 3 1, 3) := x_ins (j := 36) kk171 ia171 rfl
theorem i171_67 {xs : List Int32} : xtI (xTa xs) 171 67 = some (.goto (-47), 3) := x_ins (j := 37) kk171 ia171 rfl
theorem i171_70 {xs : List Int32} : xtI (xTa xs) 171 70 = some (.aload_n 0, 1) := x_ins (j := 38) kk171 ia171 rfl
theorem i171_71 {xs : List Int32} : xtI (xTa xs) 171 71 = some (.iload_n 1, 1) := x_ins (j := 39) kk171 ia171 rfl
theorem i171_72 {xs : List Int32} : xtI (xTa xs) 171 72 = some (.bipush 6, 2) := x_ins (j := 40) kk171 ia171 rfl
theorem i171_74 {xs : List Int32} : xtI (xTa xs) 171 74 = some (.iadd, 1) := x_ins (j := 41) kk171 ia171 rfl
theorem i171_75 {xs : List Int32} : xtI (xTa xs) 171 75 = some (.putfield 238, 3) := x_ins (j := 42) kk171 ia171 rfl
theorem i171_78 {xs : List Int32} : xtI (xTa xs) 171 78 = some (.aload_n 0, 1) := x_ins (j := 43) kk171 ia171 rfl
theorem i171_79 {xs : List Int32} : xtI (xTa xs) 171 79 = some (.iload_n 3, 1) := x_ins (j := 44) kk171 ia171 rfl
theorem i171_80 {xs : List Int32} : xtI (xTa xs) 171 80 = some (.iconst 1, 1) := x_ins (j := 45) kk171 ia171 rfl
theorem i171_81 {xs : List Int32} : xtI (xTa xs) 171 81 = some (.isub, 1) := x_ins (j := 46) kk171 ia171 rfl
theorem i171_82 {xs : List Int32} : xtI (xTa xs) 171 82 = some (.aload_n 0, 1) := x_ins (j := 47) kk171 ia171 rfl
theorem i171_83 {xs : List Int32} : xtI (xTa xs) 171 83 = some (.getfield 238, 3) := x_ins (j := 48) kk171 ia171 rfl
theorem i171_86 {xs : List Int32} : xtI (xTa xs) 171 86 = some (.isub, 1) := x_ins (j := 49) kk171 ia171 rfl
theorem i171_87 {xs : List Int32} : xtI (xTa xs) 171 87 = some (.putfield 241, 3) := x_ins (j := 50) kk171 ia171 rfl
theorem i171_90 {xs : List Int32} : xtI (xTa xs) 171 90 = some (.aload_n 0, 1) := x_ins (j := 51) kk171 ia171 rfl
theorem i171_91 {xs : List Int32} : xtI (xTa xs) 171 91 = some (.iload_n 3, 1) := x_ins (j := 52) kk171 ia171 rfl
theorem i171_92 {xs : List Int32} : xtI (xTa xs) 171 92 = some (.putfield 244, 3) := x_ins (j := 53) kk171 ia171 rfl
theorem i171_95 {xs : List Int32} : xtI (xTa xs) 171 95 = some (.iload_n 2, 1) := x_ins (j := 54) kk171 ia171 rfl
theorem i171_96 {xs : List Int32} : xtI (xTa xs) 171 96 = some (.ifCond .ne 20, 3) := x_ins (j := 55) kk171 ia171 rfl
theorem i171_99 {xs : List Int32} : xtI (xTa xs) 171 99 = some (.aload_n 0, 1) := x_ins (j := 56) kk171 ia171 rfl
theorem i171_100 {xs : List Int32} : xtI (xTa xs) 171 100 = some (.getfield 241, 3) := x_ins (j := 57) kk171 ia171 rfl
theorem i171_103 {xs : List Int32} : xtI (xTa xs) 171 103 = some (.iconst 1, 1) := x_ins (j := 58) kk171 ia171 rfl
theorem i171_104 {xs : List Int32} : xtI (xTa xs) 171 104 = some (.bipush 60, 2) := x_ins (j := 59) kk171 ia171 rfl
theorem i171_106 {xs : List Int32} : xtI (xTa xs) 171 106 = some (.invokestatic 154, 3) := x_ins (j := 60) kk171 ia171 rfl
theorem i171_109 {xs : List Int32} : xtI (xTa xs) 171 109 = some (.ifCond .eq 7, 3) := x_ins (j := 61) kk171 ia171 rfl
theorem i171_112 {xs : List Int32} : xtI (xTa xs) 171 112 = some (.iconst 1, 1) := x_ins (j := 62) kk171 ia171 rfl
theorem i171_113 {xs : List Int32} : xtI (xTa xs) 171 113 = some (.goto 4, 3) := x_ins (j := 63) kk171 ia171 rfl
theorem i171_116 {xs : List Int32} : xtI (xTa xs) 171 116 = some (.iconst (-1), 1) := x_ins (j := 64) kk171 ia171 rfl
theorem i171_117 {xs : List Int32} : xtI (xTa xs) 171 117 = some (.ireturn, 1) := x_ins (j := 65) kk171 ia171 rfl
theorem i171_118 {xs : List Int32} : xtI (xTa xs) 171 118 = some (.aload_n 0, 1) := x_ins (j := 66) kk171 ia171 rfl
theorem i171_119 {xs : List Int32} : xtI (xTa xs) 171 119 = some (.iload_n 1, 1) := x_ins (j := 67) kk171 ia171 rfl
theorem i171_120 {xs : List Int32} : xtI (xTa xs) 171 120 = some (.ldc2_w 247, 3) := x_ins (j := 68) kk171 ia171 rfl
theorem i171_123 {xs : List Int32} : xtI (xTa xs) 171 123 = some (.bipush 6, 2) := x_ins (j := 69) kk171 ia171 rfl
theorem i171_125 {xs : List Int32} : xtI (xTa xs) 171 125 = some (.invokevirtual 234, 3) := x_ins (j := 70) kk171 ia171 rfl
theorem i171_128 {xs : List Int32} : xtI (xTa xs) 171 128 = some (.ifCond .ne 5, 3) := x_ins (j := 71) kk171 ia171 rfl
theorem i171_131 {xs : List Int32} : xtI (xTa xs) 171 131 = some (.iconst (-1), 1) := x_ins (j := 72) kk171 ia171 rfl
theorem i171_132 {xs : List Int32} : xtI (xTa xs) 171 132 = some (.ireturn, 1) := x_ins (j := 73) kk171 ia171 rfl
theorem i171_133 {xs : List Int32} : xtI (xTa xs) 171 133 = some (.aload_n 0, 1) := x_ins (j := 74) kk171 ia171 rfl
theorem i171_134 {xs : List Int32} : xtI (xTa xs) 171 134 = some (.iload_n 1, 1) := x_ins (j := 75) kk171 ia171 rfl
theorem i171_135 {xs : List Int32} : xtI (xTa xs) 171 135 = some (.bipush 6, 2) := x_ins (j := 76) kk171 ia171 rfl
theorem i171_137 {xs : List Int32} : xtI (xTa xs) 171 137 = some (.iadd, 1) := x_ins (j := 77) kk171 ia171 rfl
theorem i171_138 {xs : List Int32} : xtI (xTa xs) 171 138 = some (.putfield 249, 3) := x_ins (j := 78) kk171 ia171 rfl
theorem i171_141 {xs : List Int32} : xtI (xTa xs) 171 141 = some (.aload_n 0, 1) := x_ins (j := 79) kk171 ia171 rfl
theorem i171_142 {xs : List Int32} : xtI (xTa xs) 171 142 = some (.aload_n 0, 1) := x_ins (j := 80) kk171 ia171 rfl
theorem i171_143 {xs : List Int32} : xtI (xTa xs) 171 143 = some (.getfield 41, 3) := x_ins (j := 81) kk171 ia171 rfl
theorem i171_146 {xs : List Int32} : xtI (xTa xs) 171 146 = some (.sipush 24000, 3) := x_ins (j := 82) kk171 ia171 rfl
theorem i171_149 {xs : List Int32} : xtI (xTa xs) 171 149 = some (.aload_n 0, 1) := x_ins (j := 83) kk171 ia171 rfl
theorem i171_150 {xs : List Int32} : xtI (xTa xs) 171 150 = some (.getfield 249, 3) := x_ins (j := 84) kk171 ia171 rfl
theorem i171_153 {xs : List Int32} : xtI (xTa xs) 171 153 = some (.iadd, 1) := x_ins (j := 85) kk171 ia171 rfl
theorem i171_154 {xs : List Int32} : xtI (xTa xs) 171 154 = some (.sipush 24000, 3) := x_ins (j := 86) kk171 ia171 rfl
theorem i171_157 {xs : List Int32} : xtI (xTa xs) 171 157 = some (.aload_n 0, 1) := x_ins (j := 87) kk171 ia171 rfl
theorem i171_158 {xs : List Int32} : xtI (xTa xs) 171 158 = some (.getfield 224, 3) := x_ins (j := 88) kk171 ia171 rfl
theorem i171_161 {xs : List Int32} : xtI (xTa xs) 171 161 = some (.iadd, 1) := x_ins (j := 89) kk171 ia171 rfl
theorem i171_162 {xs : List Int32} : xtI (xTa xs) 171 162 = some (.invokestatic 212, 3) := x_ins (j := 90) kk171 ia171 rfl
theorem i171_165 {xs : List Int32} : xtI (xTa xs) 171 165 = some (.putfield 252, 3) := x_ins (j := 91) kk171 ia171 rfl
theorem i171_168 {xs : List Int32} : xtI (xTa xs) 171 168 = some (.aload_n 0, 1) := x_ins (j := 92) kk171 ia171 rfl
theorem i171_169 {xs : List Int32} : xtI (xTa xs) 171 169 = some (.getfield 249, 3) := x_ins (j := 93) kk171 ia171 rfl
theorem i171_172 {xs : List Int32} : xtI (xTa xs) 171 172 = some (.aload_n 0, 1) := x_ins (j := 94) kk171 ia171 rfl
theorem i171_173 {xs : List Int32} : xtI (xTa xs) 171 173 = some (.getfield 252, 3) := x_ins (j := 95) kk171 ia171 rfl
theorem i171_176 {xs : List Int32} : xtI (xTa xs) 171 176 = some (.iadd, 1) := x_ins (j := 96) kk171 ia171 rfl
theorem i171_177 {xs : List Int32} : xtI (xTa xs) 171 177 = some (.istore_n 2, 1) := x_ins (j := 97) kk171 ia171 rfl
theorem i171_178 {xs : List Int32} : xtI (xTa xs) 171 178 = some (.aload_n 0, 1) := x_ins (j := 98) kk171 ia171 rfl
theorem i171_179 {xs : List Int32} : xtI (xTa xs) 171 179 = some (.getfield 252, 3) := x_ins (j := 99) kk171 ia171 rfl
theorem i171_182 {xs : List Int32} : xtI (xTa xs) 171 182 = some (.ifCond .eq 11, 3) := x_ins (j := 100) kk171 ia171 rfl
theorem i171_185 {xs : List Int32} : xtI (xTa xs) 171 185 = some (.iload_n 2, 1) := x_ins (j := 101) kk171 ia171 rfl
theorem i171_186 {xs : List Int32} : xtI (xTa xs) 171 186 = some (.aload_n 0, 1) := x_ins (j := 102) kk171 ia171 rfl
theorem i171_187 {xs : List Int32} : xtI (xTa xs) 171 187 = some (.getfield 224, 3) := x_ins (j := 103) kk171 ia171 rfl
theorem i171_190 {xs : List Int32} : xtI (xTa xs) 171 190 = some (.if_icmp .ne 5, 3) := x_ins (j := 104) kk171 ia171 rfl
theorem i171_193 {xs : List Int32} : xtI (xTa xs) 171 193 = some (.iconst (-1), 1) := x_ins (j := 105) kk171 ia171 rfl
theorem i171_194 {xs : List Int32} : xtI (xTa xs) 171 194 = some (.ireturn, 1) := x_ins (j := 106) kk171 ia171 rfl
theorem i171_195 {xs : List Int32} : xtI (xTa xs) 171 195 = some (.aload_n 0, 1) := x_ins (j := 107) kk171 ia171 rfl
theorem i171_196 {xs : List Int32} : xtI (xTa xs) 171 196 = some (.aload_n 0, 1) := x_ins (j := 108) kk171 ia171 rfl
theorem i171_197 {xs : List Int32} : xtI (xTa xs) 171 197 = some (.getfield 249, 3) := x_ins (j := 109) kk171 ia171 rfl
theorem i171_200 {xs : List Int32} : xtI (xTa xs) 171 200 = some (.putfield 238, 3) := x_ins (j := 110) kk171 ia171 rfl
theorem i171_203 {xs : List Int32} : xtI (xTa xs) 171 203 = some (.aload_n 0, 1) := x_ins (j := 111) kk171 ia171 rfl
theorem i171_204 {xs : List Int32} : xtI (xTa xs) 171 204 = some (.aload_n 0, 1) := x_ins (j := 112) kk171 ia171 rfl
theorem i171_205 {xs : List Int32} : xtI (xTa xs) 171 205 = some (.getfield 252, 3) := x_ins (j := 113) kk171 ia171 rfl
theorem i171_208 {xs : List Int32} : xtI (xTa xs) 171 208 = some (.putfield 241, 3) := x_ins (j := 114) kk171 ia171 rfl
theorem i171_211 {xs : List Int32} : xtI (xTa xs) 171 211 = some (.aload_n 0, 1) := x_ins (j := 115) kk171 ia171 rfl
theorem i171_212 {xs : List Int32} : xtI (xTa xs) 171 212 = some (.iload_n 2, 1) := x_ins (j := 116) kk171 ia171 rfl
theorem i171_213 {xs : List Int32} : xtI (xTa xs) 171 213 = some (.invokevirtual 227, 3) := x_ins (j := 117) kk171 ia171 rfl
theorem i171_216 {xs : List Int32} : xtI (xTa xs) 171 216 = some (.bipush 32, 2) := x_ins (j := 118) kk171 ia171 rfl
theorem i171_218 {xs : List Int32} : xtI (xTa xs) 171 218 = some (.if_icmp .ne 88, 3) := x_ins (j := 119) kk171 ia171 rfl
theorem i171_221 {xs : List Int32} : xtI (xTa xs) 171 221 = some (.aload_n 0, 1) := x_ins (j := 120) kk171 ia171 rfl
theorem i171_222 {xs : List Int32} : xtI (xTa xs) 171 222 = some (.aload_n 0, 1) := x_ins (j := 121) kk171 ia171 rfl
theorem i171_223 {xs : List Int32} : xtI (xTa xs) 171 223 = some (.iload_n 2, 1) := x_ins (j := 122) kk171 ia171 rfl
theorem i171_224 {xs : List Int32} : xtI (xTa xs) 171 224 = some (.invokevirtual 255, 3) := x_ins (j := 123) kk171 ia171 rfl
theorem i171_227 {xs : List Int32} : xtI (xTa xs) 171 227 = some (.putfield 238, 3) := x_ins (j := 124) kk171 ia171 rfl
theorem i171_230 {xs : List Int32} : xtI (xTa xs) 171 230 = some (.aload_n 0, 1) := x_ins (j := 125) kk171 ia171 rfl
theorem i171_231 {xs : List Int32} : xtI (xTa xs) 171 231 = some (.getfield 238, 3) := x_ins (j := 126) kk171 ia171 rfl
theorem i171_234 {xs : List Int32} : xtI (xTa xs) 171 234 = some (.istore_n 2, 1) := x_ins (j := 127) kk171 ia171 rfl
theorem i171_235 {xs : List Int32} : xtI (xTa xs) 171 235 = some (.iload_n 2, 1) := x_ins (j := 128) kk171 ia171 rfl
theorem i171_236 {xs : List Int32} : xtI (xTa xs) 171 236 = some (.aload_n 0, 1) := x_ins (j := 129) kk171 ia171 rfl
theorem i171_237 {xs : List Int32} : xtI (xTa xs) 171 237 = some (.getfield 224, 3) := x_ins (j := 130) kk171 ia171 rfl
theorem i171_240 {xs : List Int32} : xtI (xTa xs) 171 240 = some (.if_icmp .ge 29, 3) := x_ins (j := 131) kk171 ia171 rfl
theorem i171_243 {xs : List Int32} : xtI (xTa xs) 171 243 = some (.aload_n 0, 1) := x_ins (j := 132) kk171 ia171 rfl
theorem i171_244 {xs : List Int32} : xtI (xTa xs) 171 244 = some (.iload_n 2, 1) := x_ins (j := 133) kk171 ia171 rfl
theorem i171_245 {xs : List Int32} : xtI (xTa xs) 171 245 = some (.invokevirtual 227, 3) := x_ins (j := 134) kk171 ia171 rfl
theorem i171_248 {xs : List Int32} : xtI (xTa xs) 171 248 = some (.bipush 123, 2) := x_ins (j := 135) kk171 ia171 rfl
theorem i171_250 {xs : List Int32} : xtI (xTa xs) 171 250 = some (.if_icmp .eq 19, 3) := x_ins (j := 136) kk171 ia171 rfl
theorem i171_253 {xs : List Int32} : xtI (xTa xs) 171 253 = some (.aload_n 0, 1) := x_ins (j := 137) kk171 ia171 rfl
theorem i171_254 {xs : List Int32} : xtI (xTa xs) 171 254 = some (.iload_n 2, 1) := x_ins (j := 138) kk171 ia171 rfl
theorem i171_255 {xs : List Int32} : xtI (xTa xs) 171 255 = some (.invokevirtual 227, 3) := x_ins (j := 139) kk171 ia171 rfl
theorem i171_258 {xs : List Int32} : xtI (xTa xs) 171 258 = some (.bipush 125, 2) := x_ins (j := 140) kk171 ia171 rfl
theorem i171_260 {xs : List Int32} : xtI (xTa xs) 171 260 = some (.if_icmp .eq 9, 3) := x_ins (j := 141) kk171 ia171 rfl
theorem i171_263 {xs : List Int32} : xtI (xTa xs) 171 263 = some (.iinc 2 1, 3) := x_ins (j := 142) kk171 ia171 rfl
theorem i171_266 {xs : List Int32} : xtI (xTa xs) 171 266 = some (.goto (-31), 3) := x_ins (j := 143) kk171 ia171 rfl
theorem i171_269 {xs : List Int32} : xtI (xTa xs) 171 269 = some (.aload_n 0, 1) := x_ins (j := 144) kk171 ia171 rfl
theorem i171_270 {xs : List Int32} : xtI (xTa xs) 171 270 = some (.iload_n 2, 1) := x_ins (j := 145) kk171 ia171 rfl
theorem i171_271 {xs : List Int32} : xtI (xTa xs) 171 271 = some (.aload_n 0, 1) := x_ins (j := 146) kk171 ia171 rfl
theorem i171_272 {xs : List Int32} : xtI (xTa xs) 171 272 = some (.getfield 238, 3) := x_ins (j := 147) kk171 ia171 rfl
theorem i171_275 {xs : List Int32} : xtI (xTa xs) 171 275 = some (.isub, 1) := x_ins (j := 148) kk171 ia171 rfl
theorem i171_276 {xs : List Int32} : xtI (xTa xs) 171 276 = some (.putfield 241, 3) := x_ins (j := 149) kk171 ia171 rfl
theorem i171_279 {xs : List Int32} : xtI (xTa xs) 171 279 = some (.aload_n 0, 1) := x_ins (j := 150) kk171 ia171 rfl
theorem i171_280 {xs : List Int32} : xtI (xTa xs) 171 280 = some (.getfield 241, 3) := x_ins (j := 151) kk171 ia171 rfl
theorem i171_283 {xs : List Int32} : xtI (xTa xs) 171 283 = some (.iconst 1, 1) := x_ins (j := 152) kk171 ia171 rfl
theorem i171_284 {xs : List Int32} : xtI (xTa xs) 171 284 = some (.bipush 60, 2) := x_ins (j := 153) kk171 ia171 rfl
theorem i171_286 {xs : List Int32} : xtI (xTa xs) 171 286 = some (.invokestatic 154, 3) := x_ins (j := 154) kk171 ia171 rfl
theorem i171_289 {xs : List Int32} : xtI (xTa xs) 171 289 = some (.ifCond .eq 15, 3) := x_ins (j := 155) kk171 ia171 rfl
theorem i171_292 {xs : List Int32} : xtI (xTa xs) 171 292 = some (.aload_n 0, 1) := x_ins (j := 156) kk171 ia171 rfl
theorem i171_293 {xs : List Int32} : xtI (xTa xs) 171 293 = some (.iload_n 2, 1) := x_ins (j := 157) kk171 ia171 rfl
theorem i171_294 {xs : List Int32} : xtI (xTa xs) 171 294 = some (.iconst 1, 1) := x_ins (j := 158) kk171 ia171 rfl
theorem i171_295 {xs : List Int32} : xtI (xTa xs) 171 295 = some (.isub, 1) := x_ins (j := 159) kk171 ia171 rfl
theorem i171_296 {xs : List Int32} : xtI (xTa xs) 171 296 = some (.invokevirtual 227, 3) := x_ins (j := 160) kk171 ia171 rfl
theorem i171_299 {xs : List Int32} : xtI (xTa xs) 171 299 = some (.bipush 32, 2) := x_ins (j := 161) kk171 ia171 rfl
theorem i171_301 {xs : List Int32} : xtI (xTa xs) 171 301 = some (.if_icmp .ne 5, 3) := x_ins (j := 162) kk171 ia171 rfl
theorem i171_304 {xs : List Int32} : xtI (xTa xs) 171 304 = some (.iconst (-1), 1) := x_ins (j := 163) kk171 ia171 rfl
theorem i171_305 {xs : List Int32} : xtI (xTa xs) 171 305 = some (.ireturn, 1) := x_ins (j := 164) kk171 ia171 rfl
theorem i171_306 {xs : List Int32} : xtI (xTa xs) 171 306 = some (.aload_n 0, 1) := x_ins (j := 165) kk171 ia171 rfl
theorem i171_307 {xs : List Int32} : xtI (xTa xs) 171 307 = some (.iload_n 2, 1) := x_ins (j := 166) kk171 ia171 rfl
theorem i171_308 {xs : List Int32} : xtI (xTa xs) 171 308 = some (.iconst 1, 1) := x_ins (j := 167) kk171 ia171 rfl
theorem i171_309 {xs : List Int32} : xtI (xTa xs) 171 309 = some (.iadd, 1) := x_ins (j := 168) kk171 ia171 rfl
theorem i171_310 {xs : List Int32} : xtI (xTa xs) 171 310 = some (.putfield 244, 3) := x_ins (j := 169) kk171 ia171 rfl
theorem i171_313 {xs : List Int32} : xtI (xTa xs) 171 313 = some (.iload_n 2, 1) := x_ins (j := 170) kk171 ia171 rfl
theorem i171_314 {xs : List Int32} : xtI (xTa xs) 171 314 = some (.aload_n 0, 1) := x_ins (j := 171) kk171 ia171 rfl
theorem i171_315 {xs : List Int32} : xtI (xTa xs) 171 315 = some (.getfield 224, 3) := x_ins (j := 172) kk171 ia171 rfl
theorem i171_318 {xs : List Int32} : xtI (xTa xs) 171 318 = some (.if_icmp .ge 17, 3) := x_ins (j := 173) kk171 ia171 rfl
theorem i171_321 {xs : List Int32} : xtI (xTa xs) 171 321 = some (.aload_n 0, 1) := x_ins (j := 174) kk171 ia171 rfl
theorem i171_322 {xs : List Int32} : xtI (xTa xs) 171 322 = some (.iload_n 2, 1) := x_ins (j := 175) kk171 ia171 rfl
theorem i171_323 {xs : List Int32} : xtI (xTa xs) 171 323 = some (.invokevirtual 227, 3) := x_ins (j := 176) kk171 ia171 rfl
theorem i171_326 {xs : List Int32} : xtI (xTa xs) 171 326 = some (.bipush 125, 2) := x_ins (j := 177) kk171 ia171 rfl
theorem i171_328 {xs : List Int32} : xtI (xTa xs) 171 328 = some (.if_icmp .ne 7, 3) := x_ins (j := 178) kk171 ia171 rfl
theorem i171_331 {xs : List Int32} : xtI (xTa xs) 171 331 = some (.iconst 2, 1) := x_ins (j := 179) kk171 ia171 rfl
theorem i171_332 {xs : List Int32} : xtI (xTa xs) 171 332 = some (.goto 4, 3) := x_ins (j := 180) kk171 ia171 rfl
theorem i171_335 {xs : List Int32} : xtI (xTa xs) 171 335 = some (.iconst (-1), 1) := x_ins (j := 181) kk171 ia171 rfl
theorem i171_336 {xs : List Int32} : xtI (xTa xs) 171 336 = some (.ireturn, 1) := x_ins (j := 182) kk171 ia171 rfl
theorem kk172 : xK0.getD 172 [] = k172 := rfl
set_option maxRecDepth 100000 in
theorem ia172 : (k172.all fun e => decide (k172.lookup e.1 = some e.2)) = true := by decide +kernel
theorem i172_0 {xs : List Int32} : xtI (xTa xs) 172 0 = some (.aload_n 0, 1) := x_ins (j := 0) kk172 ia172 rfl
theorem i172_1 {xs : List Int32} : xtI (xTa xs) 172 1 = some (.iload_n 1, 1) := x_ins (j := 1) kk172 ia172 rfl
theorem i172_2 {xs : List Int32} : xtI (xTa xs) 172 2 = some (.invokevirtual 227, 3) := x_ins (j := 2) kk172 ia172 rfl
theorem i172_5 {xs : List Int32} : xtI (xTa xs) 172 5 = some (.bipush 125, 2) := x_ins (j := 3) kk172 ia172 rfl
theorem i172_7 {xs : List Int32} : xtI (xTa xs) 172 7 = some (.if_icmp .eq 22, 3) := x_ins (j := 4) kk172 ia172 rfl
theorem i172_10 {xs : List Int32} : xtI (xTa xs) 172 10 = some (.aload_n 0, 1) := x_ins (j := 5) kk172 ia172 rfl
theorem i172_11 {xs : List Int32} : xtI (xTa xs) 172 11 = some (.iload_n 1, 1) := x_ins (j := 6) kk172 ia172 rfl
theorem i172_12 {xs : List Int32} : xtI (xTa xs) 172 12 = some (.invokevirtual 227, 3) := x_ins (j := 7) kk172 ia172 rfl
theorem i172_15 {xs : List Int32} : xtI (xTa xs) 172 15 = some (.bipush 123, 2) := x_ins (j := 8) kk172 ia172 rfl
theorem i172_17 {xs : List Int32} : xtI (xTa xs) 172 17 = some (.if_icmp .ne 16, 3) := x_ins (j := 9) kk172 ia172 rfl
theorem i172_20 {xs : List Int32} : xtI (xTa xs) 172 20 = some (.aload_n 0, 1) := x_ins (j := 10) kk172 ia172 rfl
theorem i172_21 {xs : List Int32} : xtI (xTa xs) 172 21 = some (.iload_n 1, 1) := x_ins (j := 11) kk172 ia172 rfl
theorem i172_22 {xs : List Int32} : xtI (xTa xs) 172 22 = some (.invokevirtual 258, 3) := x_ins (j := 12) kk172 ia172 rfl
theorem i172_25 {xs : List Int32} : xtI (xTa xs) 172 25 = some (.iconst (-1), 1) := x_ins (j := 13) kk172 ia172 rfl
theorem i172_26 {xs : List Int32} : xtI (xTa xs) 172 26 = some (.if_icmp .ne 7, 3) := x_ins (j := 14) kk172 ia172 rfl
theorem i172_29 {xs : List Int32} : xtI (xTa xs) 172 29 = some (.iconst 1, 1) := x_ins (j := 15) kk172 ia172 rfl
theorem i172_30 {xs : List Int32} : xtI (xTa xs) 172 30 = some (.goto 4, 3) := x_ins (j := 16) kk172 ia172 rfl
theorem i172_33 {xs : List Int32} : xtI (xTa xs) 172 33 = some (.iconst 0, 1) := x_ins (j := 17) kk172 ia172 rfl
theorem i172_34 {xs : List Int32} : xtI (xTa xs) 172 34 = some (.ireturn, 1) := x_ins (j := 18) kk172 ia172 rfl
theorem kk173 : xK0.getD 173 [] = k173 := rfl
set_option maxRecDepth 100000 in
theorem ia173 : (k173.all fun e => decide (k173.lookup e.1 = some e.2)) = true := by decide +kernel
theorem i173_0 {xs : List Int32} : xtI (xTa xs) 173 0 = some (.sipush 960, 3) := x_ins (j := 0) kk173 ia173 rfl
theorem i173_3 {xs : List Int32} : xtI (xTa xs) 173 3 = some (.aload_n 0, 1) := x_ins (j := 1) kk173 ia173 rfl
theorem i173_4 {xs : List Int32} : xtI (xTa xs) 173 4 = some (.getfield 47, 3) := x_ins (j := 2) kk173 ia173 rfl
theorem i173_7 {xs : List Int32} : xtI (xTa xs) 173 7 = some (.bipush 40, 2) := x_ins (j := 3) kk173 ia173 rfl
theorem i173_9 {xs : List Int32} : xtI (xTa xs) 173 9 = some (.iaload, 1) := x_ins (j := 4) kk173 ia173 rfl
theorem i173_10 {xs : List Int32} : xtI (xTa xs) 173 10 = some (.iadd, 1) := x_ins (j := 5) kk173 ia173 rfl
theorem i173_11 {xs : List Int32} : xtI (xTa xs) 173 11 = some (.istore 4, 2) := x_ins (j := 6) kk173 ia173 rfl
theorem i173_13 {xs : List Int32} : xtI (xTa xs) 173 13 = some (.aload_n 0, 1) := x_ins (j := 7) kk173 ia173 rfl
theorem i173_14 {xs : List Int32} : xtI (xTa xs) 173 14 = some (.getfield 47, 3) := x_ins (j := 8) kk173 ia173 rfl
theorem i173_17 {xs : List Int32} : xtI (xTa xs) 173 17 = some (.bipush 40, 2) := x_ins (j := 9) kk173 ia173 rfl
theorem i173_19 {xs : List Int32} : xtI (xTa xs) 173 19 = some (.dup2, 1) := x_ins (j := 10) kk173 ia173 rfl
theorem i173_20 {xs : List Int32} : xtI (xTa xs) 173 20 = some (.iaload, 1) := x_ins (j := 11) kk173 ia173 rfl
theorem i173_21 {xs : List Int32} : xtI (xTa xs) 173 21 = some (.iconst 1, 1) := x_ins (j := 12) kk173 ia173 rfl
theorem i173_22 {xs : List Int32} : xtI (xTa xs) 173 22 = some (.iadd, 1) := x_ins (j := 13) kk173 ia173 rfl
theorem i173_23 {xs : List Int32} : xtI (xTa xs) 173 23 = some (.iastore, 1) := x_ins (j := 14) kk173 ia173 rfl
theorem i173_24 {xs : List Int32} : xtI (xTa xs) 173 24 = some (.aload_n 0, 1) := x_ins (j := 15) kk173 ia173 rfl
theorem i173_25 {xs : List Int32} : xtI (xTa xs) 173 25 = some (.getfield 53, 3) := x_ins (j := 16) kk173 ia173 rfl
theorem i173_28 {xs : List Int32} : xtI (xTa xs) 173 28 = some (.iload 4, 2) := x_ins (j := 17) kk173 ia173 rfl
theorem i173_30 {xs : List Int32} : xtI (xTa xs) 173 30 = some (.iload_n 1, 1) := x_ins (j := 18) kk173 ia173 rfl
theorem i173_31 {xs : List Int32} : xtI (xTa xs) 173 31 = some (.iastore, 1) := x_ins (j := 19) kk173 ia173 rfl
theorem i173_32 {xs : List Int32} : xtI (xTa xs) 173 32 = some (.aload_n 0, 1) := x_ins (j := 20) kk173 ia173 rfl
theorem i173_33 {xs : List Int32} : xtI (xTa xs) 173 33 = some (.getfield 56, 3) := x_ins (j := 21) kk173 ia173 rfl
theorem i173_36 {xs : List Int32} : xtI (xTa xs) 173 36 = some (.iload 4, 2) := x_ins (j := 22) kk173 ia173 rfl
theorem i173_38 {xs : List Int32} : xtI (xTa xs) 173 38 = some (.iload_n 2, 1) := x_ins (j := 23) kk173 ia173 rfl
theorem i173_39 {xs : List Int32} : xtI (xTa xs) 173 39 = some (.iastore, 1) := x_ins (j := 24) kk173 ia173 rfl
theorem i173_40 {xs : List Int32} : xtI (xTa xs) 173 40 = some (.aload_n 0, 1) := x_ins (j := 25) kk173 ia173 rfl
theorem i173_41 {xs : List Int32} : xtI (xTa xs) 173 41 = some (.getfield 59, 3) := x_ins (j := 26) kk173 ia173 rfl
theorem i173_44 {xs : List Int32} : xtI (xTa xs) 173 44 = some (.iload 4, 2) := x_ins (j := 27) kk173 ia173 rfl
theorem i173_46 {xs : List Int32} : xtI (xTa xs) 173 46 = some (.aload_n 0, 1) := x_ins (j := 28) kk173 ia173 rfl
theorem i173_47 {xs : List Int32} : xtI (xTa xs) 173 47 = some (.getfield 50, 3) := x_ins (j := 29) kk173 ia173 rfl
theorem i173_50 {xs : List Int32} : xtI (xTa xs) 173 50 = some (.bipush 40, 2) := x_ins (j := 30) kk173 ia173 rfl
theorem i173_52 {xs : List Int32} : xtI (xTa xs) 173 52 = some (.iaload, 1) := x_ins (j := 31) kk173 ia173 rfl
theorem i173_53 {xs : List Int32} : xtI (xTa xs) 173 53 = some (.iastore, 1) := x_ins (j := 32) kk173 ia173 rfl
theorem i173_54 {xs : List Int32} : xtI (xTa xs) 173 54 = some (.aload_n 0, 1) := x_ins (j := 33) kk173 ia173 rfl
theorem i173_55 {xs : List Int32} : xtI (xTa xs) 173 55 = some (.getfield 62, 3) := x_ins (j := 34) kk173 ia173 rfl
theorem i173_58 {xs : List Int32} : xtI (xTa xs) 173 58 = some (.iload 4, 2) := x_ins (j := 35) kk173 ia173 rfl
theorem i173_60 {xs : List Int32} : xtI (xTa xs) 173 60 = some (.iconst 0, 1) := x_ins (j := 36) kk173 ia173 rfl
theorem i173_61 {xs : List Int32} : xtI (xTa xs) 173 61 = some (.iastore, 1) := x_ins (j := 37) kk173 ia173 rfl
theorem i173_62 {xs : List Int32} : xtI (xTa xs) 173 62 = some (.aload_n 0, 1) := x_ins (j := 38) kk173 ia173 rfl
theorem i173_63 {xs : List Int32} : xtI (xTa xs) 173 63 = some (.getfield 65, 3) := x_ins (j := 39) kk173 ia173 rfl
theorem i173_66 {xs : List Int32} : xtI (xTa xs) 173 66 = some (.iload 4, 2) := x_ins (j := 40) kk173 ia173 rfl
theorem i173_68 {xs : List Int32} : xtI (xTa xs) 173 68 = some (.iload_n 3, 1) := x_ins (j := 41) kk173 ia173 rfl
theorem i173_69 {xs : List Int32} : xtI (xTa xs) 173 69 = some (.iastore, 1) := x_ins (j := 42) kk173 ia173 rfl
theorem i173_70 {xs : List Int32} : xtI (xTa xs) 173 70 = some (.aload_n 0, 1) := x_ins (j := 43) kk173 ia173 rfl
theorem i173_71 {xs : List Int32} : xtI (xTa xs) 173 71 = some (.getfield 68, 3) := x_ins (j := 44) kk173 ia173 rfl
theorem i173_74 {xs : List Int32} : xtI (xTa xs) 173 74 = some (.iload 4, 2) := x_ins (j := 45) kk173 ia173 rfl
theorem i173_76 {xs : List Int32} : xtI (xTa xs) 173 76 = some (.iconst 0, 1) := x_ins (j := 46) kk173 ia173 rfl
theorem i173_77 {xs : List Int32} : xtI (xTa xs) 173 77 = some (.iastore, 1) := x_ins (j := 47) kk173 ia173 rfl
theorem i173_78 {xs : List Int32} : xtI (xTa xs) 173 78 = some (.aload_n 0, 1) := x_ins (j := 48) kk173 ia173 rfl
theorem i173_79 {xs : List Int32} : xtI (xTa xs) 173 79 = some (.getfield 71, 3) := x_ins (j := 49) kk173 ia173 rfl
theorem i173_82 {xs : List Int32} : xtI (xTa xs) 173 82 = some (.iload 4, 2) := x_ins (j := 50) kk173 ia173 rfl
theorem i173_84 {xs : List Int32} : xtI (xTa xs) 173 84 = some (.iconst 0, 1) := x_ins (j := 51) kk173 ia173 rfl
theorem i173_85 {xs : List Int32} : xtI (xTa xs) 173 85 = some (.iastore, 1) := x_ins (j := 52) kk173 ia173 rfl
theorem i173_86 {xs : List Int32} : xtI (xTa xs) 173 86 = some (.aload_n 0, 1) := x_ins (j := 53) kk173 ia173 rfl
theorem i173_87 {xs : List Int32} : xtI (xTa xs) 173 87 = some (.getfield 74, 3) := x_ins (j := 54) kk173 ia173 rfl
theorem i173_90 {xs : List Int32} : xtI (xTa xs) 173 90 = some (.iload 4, 2) := x_ins (j := 55) kk173 ia173 rfl
theorem i173_92 {xs : List Int32} : xtI (xTa xs) 173 92 = some (.iconst 0, 1) := x_ins (j := 56) kk173 ia173 rfl
theorem i173_93 {xs : List Int32} : xtI (xTa xs) 173 93 = some (.bastore, 1) := x_ins (j := 57) kk173 ia173 rfl
theorem i173_94 {xs : List Int32} : xtI (xTa xs) 173 94 = some (.aload_n 0, 1) := x_ins (j := 58) kk173 ia173 rfl
theorem i173_95 {xs : List Int32} : xtI (xTa xs) 173 95 = some (.iconst (-1), 1) := x_ins (j := 59) kk173 ia173 rfl
theorem i173_96 {xs : List Int32} : xtI (xTa xs) 173 96 = some (.putfield 261, 3) := x_ins (j := 60) kk173 ia173 rfl
theorem i173_99 {xs : List Int32} : xtI (xTa xs) 173 99 = some (.return_, 1) := x_ins (j := 61) kk173 ia173 rfl
theorem kk174 : xK0.getD 174 [] = k174 := rfl
set_option maxRecDepth 100000 in
theorem ia174 : (k174.all fun e => decide (k174.lookup e.1 = some e.2)) = true := by decide +kernel
theorem i174_0 {xs : List Int32} : xtI (xTa xs) 174 0 = some (.sipush 960, 3) := x_ins (j := 0) kk174 ia174 rfl
theorem i174_3 {xs : List Int32} : xtI (xTa xs) 174 3 = some (.aload_n 0, 1) := x_ins (j := 1) kk174 ia174 rfl
theorem i174_4 {xs : List Int32} : xtI (xTa xs) 174 4 = some (.getfield 47, 3) := x_ins (j := 2) kk174 ia174 rfl
theorem i174_7 {xs : List Int32} : xtI (xTa xs) 174 7 = some (.bipush 40, 2) := x_ins (j := 3) kk174 ia174 rfl
theorem i174_9 {xs : List Int32} : xtI (xTa xs) 174 9 = some (.iaload, 1) := x_ins (j := 4) kk174 ia174 rfl
theorem i174_10 {xs : List Int32} : xtI (xTa xs) 174 10 = some (.iadd, 1) := x_ins (j := 5) kk174 ia174 rfl
theorem i174_11 {xs : List Int32} : xtI (xTa xs) 174 11 = some (.iconst 1, 1) := x_ins (j := 6) kk174 ia174 rfl
theorem i174_12 {xs : List Int32} : xtI (xTa xs) 174 12 = some (.isub, 1) := x_ins (j := 7) kk174 ia174 rfl
theorem i174_13 {xs : List Int32} : xtI (xTa xs) 174 13 = some (.ireturn, 1) := x_ins (j := 8) kk174 ia174 rfl
theorem kk175 : xK0.getD 175 [] = k175 := rfl
set_option maxRecDepth 100000 in
theorem ia175 : (k175.all fun e => decide (k175.lookup e.1 = some e.2)) = true := by decide +kernel
theorem i175_0 {xs : List Int32} : xtI (xTa xs) 175 0 = some (.aload_n 0, 1) := x_ins (j := 0) kk175 ia175 rfl
theorem i175_1 {xs : List Int32} : xtI (xTa xs) 175 1 = some (.iload_n 1, 1) := x_ins (j := 1) kk175 ia175 rfl
theorem i175_2 {xs : List Int32} : xtI (xTa xs) 175 2 = some (.invokevirtual 255, 3) := x_ins (j := 2) kk175 ia175 rfl
theorem i175_5 {xs : List Int32} : xtI (xTa xs) 175 5 = some (.istore_n 2, 1) := x_ins (j := 3) kk175 ia175 rfl
theorem i175_6 {xs : List Int32} : xtI (xTa xs) 175 6 = some (.iload_n 2, 1) := x_ins (j := 4) kk175 ia175 rfl
theorem i175_7 {xs : List Int32} : xtI (xTa xs) 175 7 = some (.aload_n 0, 1) := x_ins (j := 5) kk175 ia175 rfl
theorem i175_8 {xs : List Int32} : xtI (xTa xs) 175 8 = some (.getfield 224, 3) := x_ins (j := 6) kk175 ia175 rfl
theorem i175_11 {xs : List Int32} : xtI (xTa xs) 175 11 = some (.if_icmp .ge 61, 3) := x_ins (j := 7) kk175 ia175 rfl
theorem i175_14 {xs : List Int32} : xtI (xTa xs) 175 14 = some (.aload_n 0, 1) := x_ins (j := 8) kk175 ia175 rfl
theorem i175_15 {xs : List Int32} : xtI (xTa xs) 175 15 = some (.getfield 218, 3) := x_ins (j := 9) kk175 ia175 rfl
theorem i175_18 {xs : List Int32} : xtI (xTa xs) 175 18 = some (.ifCond .ne 54, 3) := x_ins (j := 10) kk175 ia175 rfl
theorem i175_21 {xs : List Int32} : xtI (xTa xs) 175 21 = some (.aload_n 0, 1) := x_ins (j := 11) kk175 ia175 rfl
theorem i175_22 {xs : List Int32} : xtI (xTa xs) 175 22 = some (.iload_n 2, 1) := x_ins (j := 12) kk175 ia175 rfl
theorem i175_23 {xs : List Int32} : xtI (xTa xs) 175 23 = some (.invokevirtual 264, 3) := x_ins (j := 13) kk175 ia175 rfl
theorem i175_26 {xs : List Int32} : xtI (xTa xs) 175 26 = some (.ifCond .eq 12, 3) := x_ins (j := 14) kk175 ia175 rfl
theorem i175_29 {xs : List Int32} : xtI (xTa xs) 175 29 = some (.aload_n 0, 1) := x_ins (j := 15) kk175 ia175 rfl
theorem i175_30 {xs : List Int32} : xtI (xTa xs) 175 30 = some (.iconst 2, 1) := x_ins (j := 16) kk175 ia175 rfl
theorem i175_31 {xs : List Int32} : xtI (xTa xs) 175 31 = some (.iload_n 2, 1) := x_ins (j := 17) kk175 ia175 rfl
theorem i175_32 {xs : List Int32} : xtI (xTa xs) 175 32 = some (.invokevirtual 267, 3) := x_ins (j := 18) kk175 ia175 rfl
theorem i175_35 {xs : List Int32} : xtI (xTa xs) 175 35 = some (.goto (-29), 3) := x_ins (j := 19) kk175 ia175 rfl
theorem i175_38 {xs : List Int32} : xtI (xTa xs) 175 38 = some (.aload_n 0, 1) := x_ins (j := 20) kk175 ia175 rfl
theorem i175_39 {xs : List Int32} : xtI (xTa xs) 175 39 = some (.getfield 50, 3) := x_ins (j := 21) kk175 ia175 rfl
theorem i175_42 {xs : List Int32} : xtI (xTa xs) 175 42 = some (.bipush 40, 2) := x_ins (j := 22) kk175 ia175 rfl
theorem i175_44 {xs : List Int32} : xtI (xTa xs) 175 44 = some (.iaload, 1) := x_ins (j := 23) kk175 ia175 rfl
theorem i175_45 {xs : List Int32} : xtI (xTa xs) 175 45 = some (.bipush 120, 2) := x_ins (j := 24) kk175 ia175 rfl
theorem i175_47 {xs : List Int32} : xtI (xTa xs) 175 47 = some (.if_icmp .ne 12, 3) := x_ins (j := 25) kk175 ia175 rfl
theorem i175_50 {xs : List Int32} : xtI (xTa xs) 175 50 = some (.aload_n 0, 1) := x_ins (j := 26) kk175 ia175 rfl
theorem i175_51 {xs : List Int32} : xtI (xTa xs) 175 51 = some (.iconst 4, 1) := x_ins (j := 27) kk175 ia175 rfl
theorem i175_52 {xs : List Int32} : xtI (xTa xs) 175 52 = some (.iload_n 2, 1) := x_ins (j := 28) kk175 ia175 rfl
theorem i175_53 {xs : List Int32} : xtI (xTa xs) 175 53 = some (.invokevirtual 267, 3) := x_ins (j := 29) kk175 ia175 rfl
theorem i175_56 {xs : List Int32} : xtI (xTa xs) 175 56 = some (.goto (-50), 3) := x_ins (j := 30) kk175 ia175 rfl
theorem i175_59 {xs : List Int32} : xtI (xTa xs) 175 59 = some (.aload_n 0, 1) := x_ins (j := 31) kk175 ia175 rfl
theorem i175_60 {xs : List Int32} : xtI (xTa xs) 175 60 = some (.aload_n 0, 1) := x_ins (j := 32) kk175 ia175 rfl
theorem i175_61 {xs : List Int32} : xtI (xTa xs) 175 61 = some (.iload_n 2, 1) := x_ins (j := 33) kk175 ia175 rfl
theorem i175_62 {xs : List Int32} : xtI (xTa xs) 175 62 = some (.invokevirtual 271, 3) := x_ins (j := 34) kk175 ia175 rfl
theorem i175_65 {xs : List Int32} : xtI (xTa xs) 175 65 = some (.invokevirtual 255, 3) := x_ins (j := 35) kk175 ia175 rfl
theorem i175_68 {xs : List Int32} : xtI (xTa xs) 175 68 = some (.istore_n 2, 1) := x_ins (j := 36) kk175 ia175 rfl
theorem i175_69 {xs : List Int32} : xtI (xTa xs) 175 69 = some (.goto (-63), 3) := x_ins (j := 37) kk175 ia175 rfl
theorem i175_72 {xs : List Int32} : xtI (xTa xs) 175 72 = some (.aload_n 0, 1) := x_ins (j := 38) kk175 ia175 rfl
theorem i175_73 {xs : List Int32} : xtI (xTa xs) 175 73 = some (.iconst (-1), 1) := x_ins (j := 39) kk175 ia175 rfl
theorem i175_74 {xs : List Int32} : xtI (xTa xs) 175 74 = some (.putfield 261, 3) := x_ins (j := 40) kk175 ia175 rfl
theorem i175_77 {xs : List Int32} : xtI (xTa xs) 175 77 = some (.return_, 1) := x_ins (j := 41) kk175 ia175 rfl
theorem kk176 : xK0.getD 176 [] = k176 := rfl
set_option maxRecDepth 100000 in
theorem ia176 : (k176.all fun e => decide (k176.lookup e.1 = some e.2)) = true := by decide +kernel
theorem i176_0 {xs : List Int32} : xtI (xTa xs) 176 0 = some (.sipush 4800, 3) := x_ins (j := 0) kk176 ia176 rfl
theorem i176_3 {xs : List Int32} : xtI (xTa xs) 176 3 = some (.aload_n 0, 1) := x_ins (j := 1) kk176 ia176 rfl
theorem i176_4 {xs : List Int32} : xtI (xTa xs) 176 4 = some (.getfield 50, 3) := x_ins (j := 2) kk176 ia176 rfl
theorem i176_7 {xs : List Int32} : xtI (xTa xs) 176 7 = some (.bipush 40, 2) := x_ins (j := 3) kk176 ia176 rfl
theorem i176_9 {xs : List Int32} : xtI (xTa xs) 176 9 = some (.iaload, 1) := x_ins (j := 4) kk176 ia176 rfl
theorem i176_10 {xs : List Int32} : xtI (xTa xs) 176 10 = some (.iadd, 1) := x_ins (j := 5) kk176 ia176 rfl
theorem i176_11 {xs : List Int32} : xtI (xTa xs) 176 11 = some (.istore_n 2, 1) := x_ins (j := 6) kk176 ia176 rfl
theorem i176_12 {xs : List Int32} : xtI (xTa xs) 176 12 = some (.aload_n 0, 1) := x_ins (j := 7) kk176 ia176 rfl
theorem i176_13 {xs : List Int32} : xtI (xTa xs) 176 13 = some (.getfield 50, 3) := x_ins (j := 8) kk176 ia176 rfl
theorem i176_16 {xs : List Int32} : xtI (xTa xs) 176 16 = some (.bipush 40, 2) := x_ins (j := 9) kk176 ia176 rfl
theorem i176_18 {xs : List Int32} : xtI (xTa xs) 176 18 = some (.dup2, 1) := x_ins (j := 10) kk176 ia176 rfl
theorem i176_19 {xs : List Int32} : xtI (xTa xs) 176 19 = some (.iaload, 1) := x_ins (j := 11) kk176 ia176 rfl
theorem i176_20 {xs : List Int32} : xtI (xTa xs) 176 20 = some (.iconst 1, 1) := x_ins (j := 12) kk176 ia176 rfl
theorem i176_21 {xs : List Int32} : xtI (xTa xs) 176 21 = some (.iadd, 1) := x_ins (j := 13) kk176 ia176 rfl
theorem i176_22 {xs : List Int32} : xtI (xTa xs) 176 22 = some (.iastore, 1) := x_ins (j := 14) kk176 ia176 rfl
theorem i176_23 {xs : List Int32} : xtI (xTa xs) 176 23 = some (.aload_n 0, 1) := x_ins (j := 15) kk176 ia176 rfl
theorem i176_24 {xs : List Int32} : xtI (xTa xs) 176 24 = some (.getfield 62, 3) := x_ins (j := 16) kk176 ia176 rfl
theorem i176_27 {xs : List Int32} : xtI (xTa xs) 176 27 = some (.aload_n 0, 1) := x_ins (j := 17) kk176 ia176 rfl
theorem i176_28 {xs : List Int32} : xtI (xTa xs) 176 28 = some (.invokevirtual 274, 3) := x_ins (j := 18) kk176 ia176 rfl
theorem i176_31 {xs : List Int32} : xtI (xTa xs) 176 31 = some (.dup2, 1) := x_ins (j := 19) kk176 ia176 rfl
theorem i176_32 {xs : List Int32} : xtI (xTa xs) 176 32 = some (.iaload, 1) := x_ins (j := 20) kk176 ia176 rfl
theorem i176_33 {xs : List Int32} : xtI (xTa xs) 176 33 = some (.iconst 1, 1) := x_ins (j := 21) kk176 ia176 rfl
theorem i176_34 {xs : List Int32} : xtI (xTa xs) 176 34 = some (.iadd, 1) := x_ins (j := 22) kk176 ia176 rfl
theorem i176_35 {xs : List Int32} : xtI (xTa xs) 176 35 = some (.iastore, 1) := x_ins (j := 23) kk176 ia176 rfl
theorem i176_36 {xs : List Int32} : xtI (xTa xs) 176 36 = some (.aload_n 0, 1) := x_ins (j := 24) kk176 ia176 rfl
theorem i176_37 {xs : List Int32} : xtI (xTa xs) 176 37 = some (.getfield 80, 3) := x_ins (j := 25) kk176 ia176 rfl
theorem i176_40 {xs : List Int32} : xtI (xTa xs) 176 40 = some (.iload_n 2, 1) := x_ins (j := 26) kk176 ia176 rfl
theorem i176_41 {xs : List Int32} : xtI (xTa xs) 176 41 = some (.iload_n 1, 1) := x_ins (j := 27) kk176 ia176 rfl
theorem i176_42 {xs : List Int32} : xtI (xTa xs) 176 42 = some (.iastore, 1) := x_ins (j := 28) kk176 ia176 rfl
theorem i176_43 {xs : List Int32} : xtI (xTa xs) 176 43 = some (.aload_n 0, 1) := x_ins (j := 29) kk176 ia176 rfl
theorem i176_44 {xs : List Int32} : xtI (xTa xs) 176 44 = some (.getfield 89, 3) := x_ins (j := 30) kk176 ia176 rfl
theorem i176_47 {xs : List Int32} : xtI (xTa xs) 176 47 = some (.iload_n 2, 1) := x_ins (j := 31) kk176 ia176 rfl
theorem i176_48 {xs : List Int32} : xtI (xTa xs) 176 48 = some (.aload_n 0, 1) := x_ins (j := 32) kk176 ia176 rfl
theorem i176_49 {xs : List Int32} : xtI (xTa xs) 176 49 = some (.getfield 261, 3) := x_ins (j := 33) kk176 ia176 rfl
theorem i176_52 {xs : List Int32} : xtI (xTa xs) 176 52 = some (.iload_n 1, 1) := x_ins (j := 34) kk176 ia176 rfl
theorem i176_53 {xs : List Int32} : xtI (xTa xs) 176 53 = some (.if_icmp .ne 7, 3) := x_ins (j := 35) kk176 ia176 rfl
theorem i176_56 {xs : List Int32} : xtI (xTa xs) 176 56 = some (.iconst 1, 1) := x_ins (j := 36) kk176 ia176 rfl
theorem i176_57 {xs : List Int32} : xtI (xTa xs) 176 57 = some (.goto 4, 3) := x_ins (j := 37) kk176 ia176 rfl
theorem i176_60 {xs : List Int32} : xtI (xTa xs) 176 60 = some (.iconst 0, 1) := x_ins (j := 38) kk176 ia176 rfl
theorem i176_61 {xs : List Int32} : xtI (xTa xs) 176 61 = some (.bastore, 1) := x_ins (j := 39) kk176 ia176 rfl
theorem i176_62 {xs : List Int32} : xtI (xTa xs) 176 62 = some (.aload_n 0, 1) := x_ins (j := 40) kk176 ia176 rfl
theorem i176_63 {xs : List Int32} : xtI (xTa xs) 176 63 = some (.getfield 92, 3) := x_ins (j := 41) kk176 ia176 rfl
theorem i176_66 {xs : List Int32} : xtI (xTa xs) 176 66 = some (.iload_n 2, 1) := x_ins (j := 42) kk176 ia176 rfl
theorem i176_67 {xs : List Int32} : xtI (xTa xs) 176 67 = some (.iconst 0, 1) := x_ins (j := 43) kk176 ia176 rfl
theorem i176_68 {xs : List Int32} : xtI (xTa xs) 176 68 = some (.iastore, 1) := x_ins (j := 44) kk176 ia176 rfl
theorem i176_69 {xs : List Int32} : xtI (xTa xs) 176 69 = some (.aload_n 0, 1) := x_ins (j := 45) kk176 ia176 rfl
theorem i176_70 {xs : List Int32} : xtI (xTa xs) 176 70 = some (.getfield 95, 3) := x_ins (j := 46) kk176 ia176 rfl
theorem i176_73 {xs : List Int32} : xtI (xTa xs) 176 73 = some (.iload_n 2, 1) := x_ins (j := 47) kk176 ia176 rfl
theorem i176_74 {xs : List Int32} : xtI (xTa xs) 176 74 = some (.iconst 0, 1) := x_ins (j := 48) kk176 ia176 rfl
theorem i176_75 {xs : List Int32} : xtI (xTa xs) 176 75 = some (.iastore, 1) := x_ins (j := 49) kk176 ia176 rfl
theorem i176_76 {xs : List Int32} : xtI (xTa xs) 176 76 = some (.aload_n 0, 1) := x_ins (j := 50) kk176 ia176 rfl
theorem i176_77 {xs : List Int32} : xtI (xTa xs) 176 77 = some (.iload_n 1, 1) := x_ins (j := 51) kk176 ia176 rfl
theorem i176_78 {xs : List Int32} : xtI (xTa xs) 176 78 = some (.invokevirtual 227, 3) := x_ins (j := 52) kk176 ia176 rfl
theorem i176_81 {xs : List Int32} : xtI (xTa xs) 176 81 = some (.bipush 123, 2) := x_ins (j := 53) kk176 ia176 rfl
theorem i176_83 {xs : List Int32} : xtI (xTa xs) 176 83 = some (.if_icmp .ne 55, 3) := x_ins (j := 54) kk176 ia176 rfl
theorem i176_86 {xs : List Int32} : xtI (xTa xs) 176 86 = some (.aload_n 0, 1) := x_ins (j := 55) kk176 ia176 rfl
theorem i176_87 {xs : List Int32} : xtI (xTa xs) 176 87 = some (.getfield 77, 3) := x_ins (j := 56) kk176 ia176 rfl
theorem i176_90 {xs : List Int32} : xtI (xTa xs) 176 90 = some (.iload_n 2, 1) := x_ins (j := 57) kk176 ia176 rfl
theorem i176_91 {xs : List Int32} : xtI (xTa xs) 176 91 = some (.aload_n 0, 1) := x_ins (j := 58) kk176 ia176 rfl
theorem i176_92 {xs : List Int32} : xtI (xTa xs) 176 92 = some (.iload_n 1, 1) := x_ins (j := 59) kk176 ia176 rfl
theorem i176_93 {xs : List Int32} : xtI (xTa xs) 176 93 = some (.invokevirtual 258, 3) := x_ins (j := 60) kk176 ia176 rfl
theorem i176_96 {xs : List Int32} : xtI (xTa xs) 176 96 = some (.iastore, 1) := x_ins (j := 61) kk176 ia176 rfl
theorem i176_97 {xs : List Int32} : xtI (xTa xs) 176 97 = some (.aload_n 0, 1) := x_ins (j := 62) kk176 ia176 rfl
theorem i176_98 {xs : List Int32} : xtI (xTa xs) 176 98 = some (.aload_n 0, 1) := x_ins (j := 63) kk176 ia176 rfl
theorem i176_99 {xs : List Int32} : xtI (xTa xs) 176 99 = some (.getfield 244, 3) := x_ins (j := 64) kk176 ia176 rfl
theorem i176_102 {xs : List Int32} : xtI (xTa xs) 176 102 = some (.putfield 261, 3) := x_ins (j := 65) kk176 ia176 rfl
theorem i176_105 {xs : List Int32} : xtI (xTa xs) 176 105 = some (.aload_n 0, 1) := x_ins (j := 66) kk176 ia176 rfl
theorem i176_106 {xs : List Int32} : xtI (xTa xs) 176 106 = some (.getfield 77, 3) := x_ins (j := 67) kk176 ia176 rfl
theorem i176_109 {xs : List Int32} : xtI (xTa xs) 176 109 = some (.iload_n 2, 1) := x_ins (j := 68) kk176 ia176 rfl
theorem i176_110 {xs : List Int32} : xtI (xTa xs) 176 110 = some (.iaload, 1) := x_ins (j := 69) kk176 ia176 rfl
theorem i176_111 {xs : List Int32} : xtI (xTa xs) 176 111 = some (.iconst 2, 1) := x_ins (j := 70) kk176 ia176 rfl
theorem i176_112 {xs : List Int32} : xtI (xTa xs) 176 112 = some (.if_icmp .ne 96, 3) := x_ins (j := 71) kk176 ia176 rfl
theorem i176_115 {xs : List Int32} : xtI (xTa xs) 176 115 = some (.aload_n 0, 1) := x_ins (j := 72) kk176 ia176 rfl
theorem i176_116 {xs : List Int32} : xtI (xTa xs) 176 116 = some (.getfield 92, 3) := x_ins (j := 73) kk176 ia176 rfl
theorem i176_119 {xs : List Int32} : xtI (xTa xs) 176 119 = some (.iload_n 2, 1) := x_ins (j := 74) kk176 ia176 rfl
theorem i176_120 {xs : List Int32} : xtI (xTa xs) 176 120 = some (.aload_n 0, 1) := x_ins (j := 75) kk176 ia176 rfl
theorem i176_121 {xs : List Int32} : xtI (xTa xs) 176 121 = some (.getfield 249, 3) := x_ins (j := 76) kk176 ia176 rfl
theorem i176_124 {xs : List Int32} : xtI (xTa xs) 176 124 = some (.iastore, 1) := x_ins (j := 77) kk176 ia176 rfl
theorem i176_125 {xs : List Int32} : xtI (xTa xs) 176 125 = some (.aload_n 0, 1) := x_ins (j := 78) kk176 ia176 rfl
theorem i176_126 {xs : List Int32} : xtI (xTa xs) 176 126 = some (.getfield 95, 3) := x_ins (j := 79) kk176 ia176 rfl
theorem i176_129 {xs : List Int32} : xtI (xTa xs) 176 129 = some (.iload_n 2, 1) := x_ins (j := 80) kk176 ia176 rfl
theorem i176_130 {xs : List Int32} : xtI (xTa xs) 176 130 = some (.aload_n 0, 1) := x_ins (j := 81) kk176 ia176 rfl
theorem i176_131 {xs : List Int32} : xtI (xTa xs) 176 131 = some (.getfield 252, 3) := x_ins (j := 82) kk176 ia176 rfl
theorem i176_134 {xs : List Int32} : xtI (xTa xs) 176 134 = some (.iastore, 1) := x_ins (j := 83) kk176 ia176 rfl
theorem i176_135 {xs : List Int32} : xtI (xTa xs) 176 135 = some (.goto 73, 3) := x_ins (j := 84) kk176 ia176 rfl
theorem i176_138 {xs : List Int32} : xtI (xTa xs) 176 138 = some (.iload_n 1, 1) := x_ins (j := 85) kk176 ia176 rfl
theorem i176_139 {xs : List Int32} : xtI (xTa xs) 176 139 = some (.istore_n 3, 1) := x_ins (j := 86) kk176 ia176 rfl
theorem i176_140 {xs : List Int32} : xtI (xTa xs) 176 140 = some (.iload_n 3, 1) := x_ins (j := 87) kk176 ia176 rfl
theorem i176_141 {xs : List Int32} : xtI (xTa xs) 176 141 = some (.aload_n 0, 1) := x_ins (j := 88) kk176 ia176 rfl
theorem i176_142 {xs : List Int32} : xtI (xTa xs) 176 142 = some (.getfield 224, 3) := x_ins (j := 89) kk176 ia176 rfl
theorem i176_145 {xs : List Int32} : xtI (xTa xs) 176 145 = some (.if_icmp .ge 39, 3) := x_ins (j := 90) kk176 ia176 rfl
theorem i176_148 {xs : List Int32} : xtI (xTa xs) 176 148 = some (.aload_n 0, 1) := x_ins (j := 91) kk176 ia176 rfl
theorem i176_149 {xs : List Int32} : xtI (xTa xs) 176 149 = some (.iload_n 3, 1) := x_ins (j := 92) kk176 ia176 rfl
theorem i176_150 {xs : List Int32} : xtI (xTa xs) 176 150 = some (.invokevirtual 227, 3) := x_ins (j := 93) kk176 ia176 rfl
theorem i176_153 {xs : List Int32} : xtI (xTa xs) 176 153 = some (.bipush 32, 2) := x_ins (j := 94) kk176 ia176 rfl
theorem i176_155 {xs : List Int32} : xtI (xTa xs) 176 155 = some (.if_icmp .eq 29, 3) := x_ins (j := 95) kk176 ia176 rfl
theorem i176_158 {xs : List Int32} : xtI (xTa xs) 176 158 = some (.aload_n 0, 1) := x_ins (j := 96) kk176 ia176 rfl
theorem i176_159 {xs : List Int32} : xtI (xTa xs) 176 159 = some (.iload_n 3, 1) := x_ins (j := 97) kk176 ia176 rfl
theorem i176_160 {xs : List Int32} : xtI (xTa xs) 176 160 = some (.invokevirtual 227, 3) := x_ins (j := 98) kk176 ia176 rfl
theorem i176_163 {xs : List Int32} : xtI (xTa xs) 176 163 = some (.bipush 123, 2) := x_ins (j := 99) kk176 ia176 rfl
theorem i176_165 {xs : List Int32} : xtI (xTa xs) 176 165 = some (.if_icmp .eq 19, 3) := x_ins (j := 100) kk176 ia176 rfl
theorem i176_168 {xs : List Int32} : xtI (xTa xs) 176 168 = some (.aload_n 0, 1) := x_ins (j := 101) kk176 ia176 rfl
theorem i176_169 {xs : List Int32} : xtI (xTa xs) 176 169 = some (.iload_n 3, 1) := x_ins (j := 102) kk176 ia176 rfl
theorem i176_170 {xs : List Int32} : xtI (xTa xs) 176 170 = some (.invokevirtual 227, 3) := x_ins (j := 103) kk176 ia176 rfl
theorem i176_173 {xs : List Int32} : xtI (xTa xs) 176 173 = some (.bipush 125, 2) := x_ins (j := 104) kk176 ia176 rfl
theorem i176_175 {xs : List Int32} : xtI (xTa xs) 176 175 = some (.if_icmp .eq 9, 3) := x_ins (j := 105) kk176 ia176 rfl
theorem i176_178 {xs : List Int32} : xtI (xTa xs) 176 178 = some (.iinc 3 1, 3) := x_ins (j := 106) kk176 ia176 rfl
theorem i176_181 {xs : List Int32} : xtI (xTa xs) 176 181 = some (.goto (-41), 3) := x_ins (j := 107) kk176 ia176 rfl
theorem i176_184 {xs : List Int32} : xtI (xTa xs) 176 184 = some (.aload_n 0, 1) := x_ins (j := 108) kk176 ia176 rfl
theorem i176_185 {xs : List Int32} : xtI (xTa xs) 176 185 = some (.getfield 77, 3) := x_ins (j := 109) kk176 ia176 rfl
theorem i176_188 {xs : List Int32} : xtI (xTa xs) 176 188 = some (.iload_n 2, 1) := x_ins (j := 110) kk176 ia176 rfl
theorem i176_189 {xs : List Int32} : xtI (xTa xs) 176 189 = some (.iconst 0, 1) := x_ins (j := 111) kk176 ia176 rfl
theorem i176_190 {xs : List Int32} : xtI (xTa xs) 176 190 = some (.iastore, 1) := x_ins (j := 112) kk176 ia176 rfl
theorem i176_191 {xs : List Int32} : xtI (xTa xs) 176 191 = some (.aload_n 0, 1) := x_ins (j := 113) kk176 ia176 rfl
theorem i176_192 {xs : List Int32} : xtI (xTa xs) 176 192 = some (.iload_n 1, 1) := x_ins (j := 114) kk176 ia176 rfl
theorem i176_193 {xs : List Int32} : xtI (xTa xs) 176 193 = some (.putfield 238, 3) := x_ins (j := 115) kk176 ia176 rfl
theorem i176_196 {xs : List Int32} : xtI (xTa xs) 176 196 = some (.aload_n 0, 1) := x_ins (j := 116) kk176 ia176 rfl
theorem i176_197 {xs : List Int32} : xtI (xTa xs) 176 197 = some (.iload_n 3, 1) := x_ins (j := 117) kk176 ia176 rfl
theorem i176_198 {xs : List Int32} : xtI (xTa xs) 176 198 = some (.iload_n 1, 1) := x_ins (j := 118) kk176 ia176 rfl
theorem i176_199 {xs : List Int32} : xtI (xTa xs) 176 199 = some (.isub, 1) := x_ins (j := 119) kk176 ia176 rfl
theorem i176_200 {xs : List Int32} : xtI (xTa xs) 176 200 = some (.putfield 241, 3) := x_ins (j := 120) kk176 ia176 rfl
theorem i176_203 {xs : List Int32} : xtI (xTa xs) 176 203 = some (.aload_n 0, 1) := x_ins (j := 121) kk176 ia176 rfl
theorem i176_204 {xs : List Int32} : xtI (xTa xs) 176 204 = some (.iload_n 3, 1) := x_ins (j := 122) kk176 ia176 rfl
theorem i176_205 {xs : List Int32} : xtI (xTa xs) 176 205 = some (.putfield 261, 3) := x_ins (j := 123) kk176 ia176 rfl
theorem i176_208 {xs : List Int32} : xtI (xTa xs) 176 208 = some (.aload_n 0, 1) := x_ins (j := 124) kk176 ia176 rfl
theorem i176_209 {xs : List Int32} : xtI (xTa xs) 176 209 = some (.getfield 83, 3) := x_ins (j := 125) kk176 ia176 rfl
theorem i176_212 {xs : List Int32} : xtI (xTa xs) 176 212 = some (.iload_n 2, 1) := x_ins (j := 126) kk176 ia176 rfl
theorem i176_213 {xs : List Int32} : xtI (xTa xs) 176 213 = some (.aload_n 0, 1) := x_ins (j := 127) kk176 ia176 rfl
theorem i176_214 {xs : List Int32} : xtI (xTa xs) 176 214 = some (.getfield 238, 3) := x_ins (j := 128) kk176 ia176 rfl
theorem i176_217 {xs : List Int32} : xtI (xTa xs) 176 217 = some (.iastore, 1) := x_ins (j := 129) kk176 ia176 rfl
theorem i176_218 {xs : List Int32} : xtI (xTa xs) 176 218 = some (.aload_n 0, 1) := x_ins (j := 130) kk176 ia176 rfl
theorem i176_219 {xs : List Int32} : xtI (xTa xs) 176 219 = some (.getfield 86, 3) := x_ins (j := 131) kk176 ia176 rfl
theorem i176_222 {xs : List Int32} : xtI (xTa xs) 176 222 = some (.iload_n 2, 1) := x_ins (j := 132) kk176 ia176 rfl
theorem i176_223 {xs : List Int32} : xtI (xTa xs) 176 223 = some (.aload_n 0, 1) := x_ins (j := 133) kk176 ia176 rfl
theorem i176_224 {xs : List Int32} : xtI (xTa xs) 176 224 = some (.getfield 241, 3) := x_ins (j := 134) kk176 ia176 rfl
theorem i176_227 {xs : List Int32} : xtI (xTa xs) 176 227 = some (.iastore, 1) := x_ins (j := 135) kk176 ia176 rfl
theorem i176_228 {xs : List Int32} : xtI (xTa xs) 176 228 = some (.aload_n 0, 1) := x_ins (j := 136) kk176 ia176 rfl
theorem i176_229 {xs : List Int32} : xtI (xTa xs) 176 229 = some (.getfield 261, 3) := x_ins (j := 137) kk176 ia176 rfl
theorem i176_232 {xs : List Int32} : xtI (xTa xs) 176 232 = some (.ireturn, 1) := x_ins (j := 138) kk176 ia176 rfl
