theorem x_ins {xs : List Int32} {mi j pc len : Nat} {ins : Jvm.ClassFile.Instr} {k : List (Nat × Jvm.ClassFile.Instr × Nat)} (hk : xK0.getD mi [] = k) (ha : (k.all fun e => decide (k.lookup e.1 = some e.2)) = true) (hi : k[j]? = some (pc, ins, len)) : xtI (xTa xs) mi pc = some (ins, len) := by
  show (xK0.getD mi []).lookup pc = some (ins, len)
  rw [hk]
  exact of_decide_eq_true (List.all_eq_true.mp ha _ (List.mem_of_getElem? hi))
theorem kk0 : xK0.getD 0 [] = k0 := rfl
set_option maxRecDepth 100000 in
theorem ia0 : (k0.all fun e => decide (k0.lookup e.1 = some e.2)) = true := by decide +kernel
theorem i0_0 {xs : List Int32} : xtI (xTa xs) 0 0 = some (.aload_n 0, 1) := x_ins (j := 0) kk0 ia0 rfl
theorem i0_1 {xs : List Int32} : xtI (xTa xs) 0 1 = some (.invokespecial 3, 3) := x_ins (j := 1) kk0 ia0 rfl
theorem i0_4 {xs : List Int32} : xtI (xTa xs) 0 4 = some (.return_, 1) := x_ins (j := 2) kk0 ia0 rfl
theorem kk1 : xK0.getD 1 [] = k1 := rfl
set_option maxRecDepth 100000 in
theorem ia1 : (k1.all fun e => decide (k1.lookup e.1 = some e.2)) = true := by decide +kernel
theorem i1_0 {xs : List Int32} : xtI (xTa xs) 1 0 = some (.aload_n 0, 1) := x_ins (j := 0) kk1 ia1 rfl
theorem i1_1 {xs : List Int32} : xtI (xTa xs) 1 1 = some (.getfield 9, 3) := x_ins (j := 1) kk1 ia1 rfl
theorem i1_4 {xs : List Int32} : xtI (xTa xs) 1 4 = some (.iconst 4, 1) := x_ins (j := 2) kk1 ia1 rfl
theorem i1_5 {xs : List Int32} : xtI (xTa xs) 1 5 = some (.if_icmp .eq 11, 3) := x_ins (j := 3) kk1 ia1 rfl
theorem i1_8 {xs : List Int32} : xtI (xTa xs) 1 8 = some (.aload_n 0, 1) := x_ins (j := 4) kk1 ia1 rfl
theorem i1_9 {xs : List Int32} : xtI (xTa xs) 1 9 = some (.getfield 9, 3) := x_ins (j := 5) kk1 ia1 rfl
theorem i1_12 {xs : List Int32} : xtI (xTa xs) 1 12 = some (.iconst 5, 1) := x_ins (j := 6) kk1 ia1 rfl
theorem i1_13 {xs : List Int32} : xtI (xTa xs) 1 13 = some (.if_icmp .ne 7, 3) := x_ins (j := 7) kk1 ia1 rfl
theorem i1_16 {xs : List Int32} : xtI (xTa xs) 1 16 = some (.iconst 1, 1) := x_ins (j := 8) kk1 ia1 rfl
theorem i1_17 {xs : List Int32} : xtI (xTa xs) 1 17 = some (.goto 4, 3) := x_ins (j := 9) kk1 ia1 rfl
theorem i1_20 {xs : List Int32} : xtI (xTa xs) 1 20 = some (.iconst 0, 1) := x_ins (j := 10) kk1 ia1 rfl
theorem i1_21 {xs : List Int32} : xtI (xTa xs) 1 21 = some (.ireturn, 1) := x_ins (j := 11) kk1 ia1 rfl
theorem kk2 : xK0.getD 2 [] = k2 := rfl
set_option maxRecDepth 100000 in
theorem ia2 : (k2.all fun e => decide (k2.lookup e.1 = some e.2)) = true := by decide +kernel
theorem i2_0 {xs : List Int32} : xtI (xTa xs) 2 0 = some (.aload_n 0, 1) := x_ins (j := 0) kk2 ia2 rfl
theorem i2_1 {xs : List Int32} : xtI (xTa xs) 2 1 = some (.getfield 9, 3) := x_ins (j := 1) kk2 ia2 rfl
theorem i2_4 {xs : List Int32} : xtI (xTa xs) 2 4 = some (.iconst 5, 1) := x_ins (j := 2) kk2 ia2 rfl
theorem i2_5 {xs : List Int32} : xtI (xTa xs) 2 5 = some (.if_icmp .eq 12, 3) := x_ins (j := 3) kk2 ia2 rfl
theorem i2_8 {xs : List Int32} : xtI (xTa xs) 2 8 = some (.aload_n 0, 1) := x_ins (j := 4) kk2 ia2 rfl
theorem i2_9 {xs : List Int32} : xtI (xTa xs) 2 9 = some (.getfield 9, 3) := x_ins (j := 5) kk2 ia2 rfl
theorem i2_12 {xs : List Int32} : xtI (xTa xs) 2 12 = some (.bipush 6, 2) := x_ins (j := 6) kk2 ia2 rfl
theorem i2_14 {xs : List Int32} : xtI (xTa xs) 2 14 = some (.if_icmp .ne 7, 3) := x_ins (j := 7) kk2 ia2 rfl
theorem i2_17 {xs : List Int32} : xtI (xTa xs) 2 17 = some (.iconst 1, 1) := x_ins (j := 8) kk2 ia2 rfl
theorem i2_18 {xs : List Int32} : xtI (xTa xs) 2 18 = some (.goto 4, 3) := x_ins (j := 9) kk2 ia2 rfl
theorem i2_21 {xs : List Int32} : xtI (xTa xs) 2 21 = some (.iconst 0, 1) := x_ins (j := 10) kk2 ia2 rfl
theorem i2_22 {xs : List Int32} : xtI (xTa xs) 2 22 = some (.ireturn, 1) := x_ins (j := 11) kk2 ia2 rfl
theorem kk3 : xK0.getD 3 [] = k3 := rfl
set_option maxRecDepth 100000 in
theorem ia3 : (k3.all fun e => decide (k3.lookup e.1 = some e.2)) = true := by decide +kernel
theorem i3_0 {xs : List Int32} : xtI (xTa xs) 3 0 = some (.aload_n 0, 1) := x_ins (j := 0) kk3 ia3 rfl
theorem i3_1 {xs : List Int32} : xtI (xTa xs) 3 1 = some (.invokespecial 3, 3) := x_ins (j := 1) kk3 ia3 rfl
theorem i3_4 {xs : List Int32} : xtI (xTa xs) 3 4 = some (.aload_n 0, 1) := x_ins (j := 2) kk3 ia3 rfl
theorem i3_5 {xs : List Int32} : xtI (xTa xs) 3 5 = some (.new 9, 3) := x_ins (j := 3) kk3 ia3 rfl
theorem i3_8 {xs : List Int32} : xtI (xTa xs) 3 8 = some (.dup, 1) := x_ins (j := 4) kk3 ia3 rfl
theorem i3_9 {xs : List Int32} : xtI (xTa xs) 3 9 = some (.sipush 600, 3) := x_ins (j := 5) kk3 ia3 rfl
theorem i3_12 {xs : List Int32} : xtI (xTa xs) 3 12 = some (.invokespecial 11, 3) := x_ins (j := 6) kk3 ia3 rfl
theorem i3_15 {xs : List Int32} : xtI (xTa xs) 3 15 = some (.putfield 14, 3) := x_ins (j := 7) kk3 ia3 rfl
theorem i3_18 {xs : List Int32} : xtI (xTa xs) 3 18 = some (.aload_n 0, 1) := x_ins (j := 8) kk3 ia3 rfl
theorem i3_19 {xs : List Int32} : xtI (xTa xs) 3 19 = some (.bipush 25, 2) := x_ins (j := 9) kk3 ia3 rfl
theorem i3_21 {xs : List Int32} : xtI (xTa xs) 3 21 = some (.anewarray 20, 3) := x_ins (j := 10) kk3 ia3 rfl
theorem i3_24 {xs : List Int32} : xtI (xTa xs) 3 24 = some (.putfield 22, 3) := x_ins (j := 11) kk3 ia3 rfl
theorem i3_27 {xs : List Int32} : xtI (xTa xs) 3 27 = some (.iconst 0, 1) := x_ins (j := 12) kk3 ia3 rfl
theorem i3_28 {xs : List Int32} : xtI (xTa xs) 3 28 = some (.istore_n 1, 1) := x_ins (j := 13) kk3 ia3 rfl
theorem i3_29 {xs : List Int32} : xtI (xTa xs) 3 29 = some (.iload_n 1, 1) := x_ins (j := 14) kk3 ia3 rfl
theorem i3_30 {xs : List Int32} : xtI (xTa xs) 3 30 = some (.aload_n 0, 1) := x_ins (j := 15) kk3 ia3 rfl
theorem i3_31 {xs : List Int32} : xtI (xTa xs) 3 31 = some (.getfield 22, 3) := x_ins (j := 16) kk3 ia3 rfl
theorem i3_34 {xs : List Int32} : xtI (xTa xs) 3 34 = some (.arraylength, 1) := x_ins (j := 17) kk3 ia3 rfl
theorem i3_35 {xs : List Int32} : xtI (xTa xs) 3 35 = some (.if_icmp .ge 22, 3) := x_ins (j := 18) kk3 ia3 rfl
theorem i3_38 {xs : List Int32} : xtI (xTa xs) 3 38 = some (.aload_n 0, 1) := x_ins (j := 19) kk3 ia3 rfl
theorem i3_39 {xs : List Int32} : xtI (xTa xs) 3 39 = some (.getfield 22, 3) := x_ins (j := 20) kk3 ia3 rfl
theorem i3_42 {xs : List Int32} : xtI (xTa xs) 3 42 = some (.iload_n 1, 1) := x_ins (j := 21) kk3 ia3 rfl
theorem i3_43 {xs : List Int32} : xtI (xTa xs) 3 43 = some (.new 20, 3) := x_ins (j := 22) kk3 ia3 rfl
theorem i3_46 {xs : List Int32} : xtI (xTa xs) 3 46 = some (.dup, 1) := x_ins (j := 23) kk3 ia3 rfl
theorem i3_47 {xs : List Int32} : xtI (xTa xs) 3 47 = some (.invokespecial 26, 3) := x_ins (j := 24) kk3 ia3 rfl
theorem i3_50 {xs : List Int32} : xtI (xTa xs) 3 50 = some (.aastore, 1) := x_ins (j := 25) kk3 ia3 rfl
theorem i3_51 {xs : List Int32} : xtI (xTa xs) 3 51 = some (.iinc 1 1, 3) := x_ins (j := 26) kk3 ia3 rfl
theorem i3_54 {xs : List Int32} : xtI (xTa xs) 3 54 = some (.goto (-25), 3) := x_ins (j := 27) kk3 ia3 rfl
theorem i3_57 {xs : List Int32} : xtI (xTa xs) 3 57 = some (.aload_n 0, 1) := x_ins (j := 28) kk3 ia3 rfl
theorem i3_58 {xs : List Int32} : xtI (xTa xs) 3 58 = some (.bipush 120, 2) := x_ins (j := 29) kk3 ia3 rfl
theorem i3_60 {xs : List Int32} : xtI (xTa xs) 3 60 = some (.anewarray 27, 3) := x_ins (j := 30) kk3 ia3 rfl
theorem i3_63 {xs : List Int32} : xtI (xTa xs) 3 63 = some (.putfield 29, 3) := x_ins (j := 31) kk3 ia3 rfl
theorem i3_66 {xs : List Int32} : xtI (xTa xs) 3 66 = some (.iconst 0, 1) := x_ins (j := 32) kk3 ia3 rfl
theorem i3_67 {xs : List Int32} : xtI (xTa xs) 3 67 = some (.istore_n 1, 1) := x_ins (j := 33) kk3 ia3 rfl
theorem i3_68 {xs : List Int32} : xtI (xTa xs) 3 68 = some (.iload_n 1, 1) := x_ins (j := 34) kk3 ia3 rfl
theorem i3_69 {xs : List Int32} : xtI (xTa xs) 3 69 = some (.aload_n 0, 1) := x_ins (j := 35) kk3 ia3 rfl
theorem i3_70 {xs : List Int32} : xtI (xTa xs) 3 70 = some (.getfield 29, 3) := x_ins (j := 36) kk3 ia3 rfl
theorem i3_73 {xs : List Int32} : xtI (xTa xs) 3 73 = some (.arraylength, 1) := x_ins (j := 37) kk3 ia3 rfl
theorem i3_74 {xs : List Int32} : xtI (xTa xs) 3 74 = some (.if_icmp .ge 22, 3) := x_ins (j := 38) kk3 ia3 rfl
theorem i3_77 {xs : List Int32} : xtI (xTa xs) 3 77 = some (.aload_n 0, 1) := x_ins (j := 39) kk3 ia3 rfl
theorem i3_78 {xs : List Int32} : xtI (xTa xs) 3 78 = some (.getfield 29, 3) := x_ins (j := 40) kk3 ia3 rfl
theorem i3_81 {xs : List Int32} : xtI (xTa xs) 3 81 = some (.iload_n 1, 1) := x_ins (j := 41) kk3 ia3 rfl
theorem i3_82 {xs : List Int32} : xtI (xTa xs) 3 82 = some (.new 27, 3) := x_ins (j := 42) kk3 ia3 rfl
theorem i3_85 {xs : List Int32} : xtI (xTa xs) 3 85 = some (.dup, 1) := x_ins (j := 43) kk3 ia3 rfl
theorem i3_86 {xs : List Int32} : xtI (xTa xs) 3 86 = some (.invokespecial 33, 3) := x_ins (j := 44) kk3 ia3 rfl
theorem i3_89 {xs : List Int32} : xtI (xTa xs) 3 89 = some (.aastore, 1) := x_ins (j := 45) kk3 ia3 rfl
theorem i3_90 {xs : List Int32} : xtI (xTa xs) 3 90 = some (.iinc 1 1, 3) := x_ins (j := 46) kk3 ia3 rfl
theorem i3_93 {xs : List Int32} : xtI (xTa xs) 3 93 = some (.goto (-25), 3) := x_ins (j := 47) kk3 ia3 rfl
theorem i3_96 {xs : List Int32} : xtI (xTa xs) 3 96 = some (.return_, 1) := x_ins (j := 48) kk3 ia3 rfl
theorem kk4 : xK0.getD 4 [] = k4 := rfl
set_option maxRecDepth 100000 in
theorem ia4 : (k4.all fun e => decide (k4.lookup e.1 = some e.2)) = true := by decide +kernel
theorem i4_0 {xs : List Int32} : xtI (xTa xs) 4 0 = some (.aload_n 0, 1) := x_ins (j := 0) kk4 ia4 rfl
theorem i4_1 {xs : List Int32} : xtI (xTa xs) 4 1 = some (.getfield 14, 3) := x_ins (j := 1) kk4 ia4 rfl
theorem i4_4 {xs : List Int32} : xtI (xTa xs) 4 4 = some (.aload_n 1, 1) := x_ins (j := 2) kk4 ia4 rfl
theorem i4_5 {xs : List Int32} : xtI (xTa xs) 4 5 = some (.invokevirtual 34, 3) := x_ins (j := 3) kk4 ia4 rfl
theorem i4_8 {xs : List Int32} : xtI (xTa xs) 4 8 = some (.aload_n 0, 1) := x_ins (j := 4) kk4 ia4 rfl
theorem i4_9 {xs : List Int32} : xtI (xTa xs) 4 9 = some (.aload_n 2, 1) := x_ins (j := 5) kk4 ia4 rfl
theorem i4_10 {xs : List Int32} : xtI (xTa xs) 4 10 = some (.putfield 38, 3) := x_ins (j := 6) kk4 ia4 rfl
theorem i4_13 {xs : List Int32} : xtI (xTa xs) 4 13 = some (.aload_n 0, 1) := x_ins (j := 7) kk4 ia4 rfl
theorem i4_14 {xs : List Int32} : xtI (xTa xs) 4 14 = some (.iconst 0, 1) := x_ins (j := 8) kk4 ia4 rfl
theorem i4_15 {xs : List Int32} : xtI (xTa xs) 4 15 = some (.putfield 42, 3) := x_ins (j := 9) kk4 ia4 rfl
theorem i4_18 {xs : List Int32} : xtI (xTa xs) 4 18 = some (.aload_n 0, 1) := x_ins (j := 10) kk4 ia4 rfl
theorem i4_19 {xs : List Int32} : xtI (xTa xs) 4 19 = some (.iconst 0, 1) := x_ins (j := 11) kk4 ia4 rfl
theorem i4_20 {xs : List Int32} : xtI (xTa xs) 4 20 = some (.putfield 46, 3) := x_ins (j := 12) kk4 ia4 rfl
theorem i4_23 {xs : List Int32} : xtI (xTa xs) 4 23 = some (.return_, 1) := x_ins (j := 13) kk4 ia4 rfl
theorem kk5 : xK0.getD 5 [] = k5 := rfl
set_option maxRecDepth 100000 in
theorem ia5 : (k5.all fun e => decide (k5.lookup e.1 = some e.2)) = true := by decide +kernel
theorem i5_0 {xs : List Int32} : xtI (xTa xs) 5 0 = some (.iload_n 1, 1) := x_ins (j := 0) kk5 ia5 rfl
theorem i5_1 {xs : List Int32} : xtI (xTa xs) 5 1 = some (.ifCond .lt 11, 3) := x_ins (j := 1) kk5 ia5 rfl
theorem i5_4 {xs : List Int32} : xtI (xTa xs) 5 4 = some (.iload_n 1, 1) := x_ins (j := 2) kk5 ia5 rfl
theorem i5_5 {xs : List Int32} : xtI (xTa xs) 5 5 = some (.aload_n 0, 1) := x_ins (j := 3) kk5 ia5 rfl
theorem i5_6 {xs : List Int32} : xtI (xTa xs) 5 6 = some (.getfield 42, 3) := x_ins (j := 4) kk5 ia5 rfl
theorem i5_9 {xs : List Int32} : xtI (xTa xs) 5 9 = some (.if_icmp .lt 7, 3) := x_ins (j := 5) kk5 ia5 rfl
theorem i5_12 {xs : List Int32} : xtI (xTa xs) 5 12 = some (.aconst_null, 1) := x_ins (j := 6) kk5 ia5 rfl
theorem i5_13 {xs : List Int32} : xtI (xTa xs) 5 13 = some (.goto 9, 3) := x_ins (j := 7) kk5 ia5 rfl
theorem i5_16 {xs : List Int32} : xtI (xTa xs) 5 16 = some (.aload_n 0, 1) := x_ins (j := 8) kk5 ia5 rfl
theorem i5_17 {xs : List Int32} : xtI (xTa xs) 5 17 = some (.getfield 22, 3) := x_ins (j := 9) kk5 ia5 rfl
theorem i5_20 {xs : List Int32} : xtI (xTa xs) 5 20 = some (.iload_n 1, 1) := x_ins (j := 10) kk5 ia5 rfl
theorem i5_21 {xs : List Int32} : xtI (xTa xs) 5 21 = some (.aaload, 1) := x_ins (j := 11) kk5 ia5 rfl
theorem i5_22 {xs : List Int32} : xtI (xTa xs) 5 22 = some (.areturn, 1) := x_ins (j := 12) kk5 ia5 rfl
theorem kk6 : xK0.getD 6 [] = k6 := rfl
set_option maxRecDepth 100000 in
theorem ia6 : (k6.all fun e => decide (k6.lookup e.1 = some e.2)) = true := by decide +kernel
theorem i6_0 {xs : List Int32} : xtI (xTa xs) 6 0 = some (.iload_n 1, 1) := x_ins (j := 0) kk6 ia6 rfl
theorem i6_1 {xs : List Int32} : xtI (xTa xs) 6 1 = some (.ifCond .lt 11, 3) := x_ins (j := 1) kk6 ia6 rfl
theorem i6_4 {xs : List Int32} : xtI (xTa xs) 6 4 = some (.iload_n 1, 1) := x_ins (j := 2) kk6 ia6 rfl
theorem i6_5 {xs : List Int32} : xtI (xTa xs) 6 5 = some (.aload_n 0, 1) := x_ins (j := 3) kk6 ia6 rfl
theorem i6_6 {xs : List Int32} : xtI (xTa xs) 6 6 = some (.getfield 46, 3) := x_ins (j := 4) kk6 ia6 rfl
theorem i6_9 {xs : List Int32} : xtI (xTa xs) 6 9 = some (.if_icmp .lt 7, 3) := x_ins (j := 5) kk6 ia6 rfl
theorem i6_12 {xs : List Int32} : xtI (xTa xs) 6 12 = some (.aconst_null, 1) := x_ins (j := 6) kk6 ia6 rfl
theorem i6_13 {xs : List Int32} : xtI (xTa xs) 6 13 = some (.goto 9, 3) := x_ins (j := 7) kk6 ia6 rfl
theorem i6_16 {xs : List Int32} : xtI (xTa xs) 6 16 = some (.aload_n 0, 1) := x_ins (j := 8) kk6 ia6 rfl
theorem i6_17 {xs : List Int32} : xtI (xTa xs) 6 17 = some (.getfield 29, 3) := x_ins (j := 9) kk6 ia6 rfl
theorem i6_20 {xs : List Int32} : xtI (xTa xs) 6 20 = some (.iload_n 1, 1) := x_ins (j := 10) kk6 ia6 rfl
theorem i6_21 {xs : List Int32} : xtI (xTa xs) 6 21 = some (.aaload, 1) := x_ins (j := 11) kk6 ia6 rfl
theorem i6_22 {xs : List Int32} : xtI (xTa xs) 6 22 = some (.areturn, 1) := x_ins (j := 12) kk6 ia6 rfl
theorem kk7 : xK0.getD 7 [] = k7 := rfl
set_option maxRecDepth 100000 in
theorem ia7 : (k7.all fun e => decide (k7.lookup e.1 = some e.2)) = true := by decide +kernel
theorem i7_0 {xs : List Int32} : xtI (xTa xs) 7 0 = some (.aload_n 0, 1) := x_ins (j := 0) kk7 ia7 rfl
theorem i7_1 {xs : List Int32} : xtI (xTa xs) 7 1 = some (.getfield 42, 3) := x_ins (j := 1) kk7 ia7 rfl
theorem i7_4 {xs : List Int32} : xtI (xTa xs) 7 4 = some (.aload_n 0, 1) := x_ins (j := 2) kk7 ia7 rfl
theorem i7_5 {xs : List Int32} : xtI (xTa xs) 7 5 = some (.getfield 22, 3) := x_ins (j := 3) kk7 ia7 rfl
theorem i7_8 {xs : List Int32} : xtI (xTa xs) 7 8 = some (.arraylength, 1) := x_ins (j := 4) kk7 ia7 rfl
theorem i7_9 {xs : List Int32} : xtI (xTa xs) 7 9 = some (.if_icmp .lt 5, 3) := x_ins (j := 5) kk7 ia7 rfl
theorem i7_12 {xs : List Int32} : xtI (xTa xs) 7 12 = some (.aconst_null, 1) := x_ins (j := 6) kk7 ia7 rfl
theorem i7_13 {xs : List Int32} : xtI (xTa xs) 7 13 = some (.areturn, 1) := x_ins (j := 7) kk7 ia7 rfl
theorem i7_14 {xs : List Int32} : xtI (xTa xs) 7 14 = some (.aload_n 0, 1) := x_ins (j := 8) kk7 ia7 rfl
theorem i7_15 {xs : List Int32} : xtI (xTa xs) 7 15 = some (.getfield 22, 3) := x_ins (j := 9) kk7 ia7 rfl
theorem i7_18 {xs : List Int32} : xtI (xTa xs) 7 18 = some (.aload_n 0, 1) := x_ins (j := 10) kk7 ia7 rfl
theorem i7_19 {xs : List Int32} : xtI (xTa xs) 7 19 = some (.getfield 42, 3) := x_ins (j := 11) kk7 ia7 rfl
theorem i7_22 {xs : List Int32} : xtI (xTa xs) 7 22 = some (.aaload, 1) := x_ins (j := 12) kk7 ia7 rfl
theorem i7_23 {xs : List Int32} : xtI (xTa xs) 7 23 = some (.astore_n 3, 1) := x_ins (j := 13) kk7 ia7 rfl
theorem i7_24 {xs : List Int32} : xtI (xTa xs) 7 24 = some (.aload_n 0, 1) := x_ins (j := 14) kk7 ia7 rfl
theorem i7_25 {xs : List Int32} : xtI (xTa xs) 7 25 = some (.dup, 1) := x_ins (j := 15) kk7 ia7 rfl
theorem i7_26 {xs : List Int32} : xtI (xTa xs) 7 26 = some (.getfield 42, 3) := x_ins (j := 16) kk7 ia7 rfl
theorem i7_29 {xs : List Int32} : xtI (xTa xs) 7 29 = some (.iconst 1, 1) := x_ins (j := 17) kk7 ia7 rfl
theorem i7_30 {xs : List Int32} : xtI (xTa xs) 7 30 = some (.iadd, 1) := x_ins (j := 18) kk7 ia7 rfl
theorem i7_31 {xs : List Int32} : xtI (xTa xs) 7 31 = some (.putfield 42, 3) := x_ins (j := 19) kk7 ia7 rfl
theorem i7_34 {xs : List Int32} : xtI (xTa xs) 7 34 = some (.aload_n 3, 1) := x_ins (j := 20) kk7 ia7 rfl
theorem i7_35 {xs : List Int32} : xtI (xTa xs) 7 35 = some (.aload_n 0, 1) := x_ins (j := 21) kk7 ia7 rfl
theorem i7_36 {xs : List Int32} : xtI (xTa xs) 7 36 = some (.putfield 49, 3) := x_ins (j := 22) kk7 ia7 rfl
theorem i7_39 {xs : List Int32} : xtI (xTa xs) 7 39 = some (.aload_n 3, 1) := x_ins (j := 23) kk7 ia7 rfl
theorem i7_40 {xs : List Int32} : xtI (xTa xs) 7 40 = some (.iload_n 1, 1) := x_ins (j := 24) kk7 ia7 rfl
theorem i7_41 {xs : List Int32} : xtI (xTa xs) 7 41 = some (.putfield 53, 3) := x_ins (j := 25) kk7 ia7 rfl
theorem i7_44 {xs : List Int32} : xtI (xTa xs) 7 44 = some (.aload_n 3, 1) := x_ins (j := 26) kk7 ia7 rfl
theorem i7_45 {xs : List Int32} : xtI (xTa xs) 7 45 = some (.iload_n 2, 1) := x_ins (j := 27) kk7 ia7 rfl
theorem i7_46 {xs : List Int32} : xtI (xTa xs) 7 46 = some (.putfield 56, 3) := x_ins (j := 28) kk7 ia7 rfl
theorem i7_49 {xs : List Int32} : xtI (xTa xs) 7 49 = some (.aload_n 3, 1) := x_ins (j := 29) kk7 ia7 rfl
theorem i7_50 {xs : List Int32} : xtI (xTa xs) 7 50 = some (.iconst 0, 1) := x_ins (j := 30) kk7 ia7 rfl
theorem i7_51 {xs : List Int32} : xtI (xTa xs) 7 51 = some (.putfield 59, 3) := x_ins (j := 31) kk7 ia7 rfl
theorem i7_54 {xs : List Int32} : xtI (xTa xs) 7 54 = some (.aload_n 3, 1) := x_ins (j := 32) kk7 ia7 rfl
theorem i7_55 {xs : List Int32} : xtI (xTa xs) 7 55 = some (.aload_n 0, 1) := x_ins (j := 33) kk7 ia7 rfl
theorem i7_56 {xs : List Int32} : xtI (xTa xs) 7 56 = some (.getfield 46, 3) := x_ins (j := 34) kk7 ia7 rfl
theorem i7_59 {xs : List Int32} : xtI (xTa xs) 7 59 = some (.putfield 62, 3) := x_ins (j := 35) kk7 ia7 rfl
theorem i7_62 {xs : List Int32} : xtI (xTa xs) 7 62 = some (.aload_n 3, 1) := x_ins (j := 36) kk7 ia7 rfl
theorem i7_63 {xs : List Int32} : xtI (xTa xs) 7 63 = some (.iconst 0, 1) := x_ins (j := 37) kk7 ia7 rfl
theorem i7_64 {xs : List Int32} : xtI (xTa xs) 7 64 = some (.putfield 65, 3) := x_ins (j := 38) kk7 ia7 rfl
theorem i7_67 {xs : List Int32} : xtI (xTa xs) 7 67 = some (.aload_n 3, 1) := x_ins (j := 39) kk7 ia7 rfl
theorem i7_68 {xs : List Int32} : xtI (xTa xs) 7 68 = some (.iconst 0, 1) := x_ins (j := 40) kk7 ia7 rfl
theorem i7_69 {xs : List Int32} : xtI (xTa xs) 7 69 = some (.putfield 66, 3) := x_ins (j := 41) kk7 ia7 rfl
theorem i7_72 {xs : List Int32} : xtI (xTa xs) 7 72 = some (.aload_n 3, 1) := x_ins (j := 42) kk7 ia7 rfl
theorem i7_73 {xs : List Int32} : xtI (xTa xs) 7 73 = some (.iconst 0, 1) := x_ins (j := 43) kk7 ia7 rfl
theorem i7_74 {xs : List Int32} : xtI (xTa xs) 7 74 = some (.putfield 69, 3) := x_ins (j := 44) kk7 ia7 rfl
theorem i7_77 {xs : List Int32} : xtI (xTa xs) 7 77 = some (.aload_n 3, 1) := x_ins (j := 45) kk7 ia7 rfl
theorem i7_78 {xs : List Int32} : xtI (xTa xs) 7 78 = some (.iconst 0, 1) := x_ins (j := 46) kk7 ia7 rfl
theorem i7_79 {xs : List Int32} : xtI (xTa xs) 7 79 = some (.putfield 72, 3) := x_ins (j := 47) kk7 ia7 rfl
theorem i7_82 {xs : List Int32} : xtI (xTa xs) 7 82 = some (.aload_n 3, 1) := x_ins (j := 48) kk7 ia7 rfl
theorem i7_83 {xs : List Int32} : xtI (xTa xs) 7 83 = some (.areturn, 1) := x_ins (j := 49) kk7 ia7 rfl
theorem kk8 : xK0.getD 8 [] = k8 := rfl
set_option maxRecDepth 100000 in
theorem ia8 : (k8.all fun e => decide (k8.lookup e.1 = some e.2)) = true := by decide +kernel
theorem i8_0 {xs : List Int32} : xtI (xTa xs) 8 0 = some (.aload_n 0, 1) := x_ins (j := 0) kk8 ia8 rfl
theorem i8_1 {xs : List Int32} : xtI (xTa xs) 8 1 = some (.getfield 46, 3) := x_ins (j := 1) kk8 ia8 rfl
theorem i8_4 {xs : List Int32} : xtI (xTa xs) 8 4 = some (.aload_n 0, 1) := x_ins (j := 2) kk8 ia8 rfl
theorem i8_5 {xs : List Int32} : xtI (xTa xs) 8 5 = some (.getfield 29, 3) := x_ins (j := 3) kk8 ia8 rfl
theorem i8_8 {xs : List Int32} : xtI (xTa xs) 8 8 = some (.arraylength, 1) := x_ins (j := 4) kk8 ia8 rfl
theorem i8_9 {xs : List Int32} : xtI (xTa xs) 8 9 = some (.if_icmp .lt 5, 3) := x_ins (j := 5) kk8 ia8 rfl
theorem i8_12 {xs : List Int32} : xtI (xTa xs) 8 12 = some (.aconst_null, 1) := x_ins (j := 6) kk8 ia8 rfl
theorem i8_13 {xs : List Int32} : xtI (xTa xs) 8 13 = some (.areturn, 1) := x_ins (j := 7) kk8 ia8 rfl
theorem i8_14 {xs : List Int32} : xtI (xTa xs) 8 14 = some (.aload_n 0, 1) := x_ins (j := 8) kk8 ia8 rfl
theorem i8_15 {xs : List Int32} : xtI (xTa xs) 8 15 = some (.getfield 29, 3) := x_ins (j := 9) kk8 ia8 rfl
theorem i8_18 {xs : List Int32} : xtI (xTa xs) 8 18 = some (.aload_n 0, 1) := x_ins (j := 10) kk8 ia8 rfl
theorem i8_19 {xs : List Int32} : xtI (xTa xs) 8 19 = some (.getfield 46, 3) := x_ins (j := 11) kk8 ia8 rfl
theorem i8_22 {xs : List Int32} : xtI (xTa xs) 8 22 = some (.aaload, 1) := x_ins (j := 12) kk8 ia8 rfl
theorem i8_23 {xs : List Int32} : xtI (xTa xs) 8 23 = some (.astore_n 3, 1) := x_ins (j := 13) kk8 ia8 rfl
theorem i8_24 {xs : List Int32} : xtI (xTa xs) 8 24 = some (.aload_n 0, 1) := x_ins (j := 14) kk8 ia8 rfl
theorem i8_25 {xs : List Int32} : xtI (xTa xs) 8 25 = some (.dup, 1) := x_ins (j := 15) kk8 ia8 rfl
theorem i8_26 {xs : List Int32} : xtI (xTa xs) 8 26 = some (.getfield 46, 3) := x_ins (j := 16) kk8 ia8 rfl
theorem i8_29 {xs : List Int32} : xtI (xTa xs) 8 29 = some (.iconst 1, 1) := x_ins (j := 17) kk8 ia8 rfl
theorem i8_30 {xs : List Int32} : xtI (xTa xs) 8 30 = some (.iadd, 1) := x_ins (j := 18) kk8 ia8 rfl
theorem i8_31 {xs : List Int32} : xtI (xTa xs) 8 31 = some (.putfield 46, 3) := x_ins (j := 19) kk8 ia8 rfl
theorem i8_34 {xs : List Int32} : xtI (xTa xs) 8 34 = some (.aload_n 3, 1) := x_ins (j := 20) kk8 ia8 rfl
theorem i8_35 {xs : List Int32} : xtI (xTa xs) 8 35 = some (.iconst 0, 1) := x_ins (j := 21) kk8 ia8 rfl
theorem i8_36 {xs : List Int32} : xtI (xTa xs) 8 36 = some (.putfield 76, 3) := x_ins (j := 22) kk8 ia8 rfl
theorem i8_39 {xs : List Int32} : xtI (xTa xs) 8 39 = some (.aload_n 3, 1) := x_ins (j := 23) kk8 ia8 rfl
theorem i8_40 {xs : List Int32} : xtI (xTa xs) 8 40 = some (.iload_n 1, 1) := x_ins (j := 24) kk8 ia8 rfl
theorem i8_41 {xs : List Int32} : xtI (xTa xs) 8 41 = some (.putfield 77, 3) := x_ins (j := 25) kk8 ia8 rfl
theorem i8_44 {xs : List Int32} : xtI (xTa xs) 8 44 = some (.aload_n 3, 1) := x_ins (j := 26) kk8 ia8 rfl
theorem i8_45 {xs : List Int32} : xtI (xTa xs) 8 45 = some (.iload_n 1, 1) := x_ins (j := 27) kk8 ia8 rfl
theorem i8_46 {xs : List Int32} : xtI (xTa xs) 8 46 = some (.putfield 78, 3) := x_ins (j := 28) kk8 ia8 rfl
theorem i8_49 {xs : List Int32} : xtI (xTa xs) 8 49 = some (.aload_n 3, 1) := x_ins (j := 29) kk8 ia8 rfl
theorem i8_50 {xs : List Int32} : xtI (xTa xs) 8 50 = some (.iload_n 2, 1) := x_ins (j := 30) kk8 ia8 rfl
theorem i8_51 {xs : List Int32} : xtI (xTa xs) 8 51 = some (.putfield 81, 3) := x_ins (j := 31) kk8 ia8 rfl
theorem i8_54 {xs : List Int32} : xtI (xTa xs) 8 54 = some (.aload_n 3, 1) := x_ins (j := 32) kk8 ia8 rfl
theorem i8_55 {xs : List Int32} : xtI (xTa xs) 8 55 = some (.iconst 0, 1) := x_ins (j := 33) kk8 ia8 rfl
theorem i8_56 {xs : List Int32} : xtI (xTa xs) 8 56 = some (.putfield 84, 3) := x_ins (j := 34) kk8 ia8 rfl
theorem i8_59 {xs : List Int32} : xtI (xTa xs) 8 59 = some (.aload_n 3, 1) := x_ins (j := 35) kk8 ia8 rfl
theorem i8_60 {xs : List Int32} : xtI (xTa xs) 8 60 = some (.iconst 0, 1) := x_ins (j := 36) kk8 ia8 rfl
theorem i8_61 {xs : List Int32} : xtI (xTa xs) 8 61 = some (.putfield 85, 3) := x_ins (j := 37) kk8 ia8 rfl
theorem i8_64 {xs : List Int32} : xtI (xTa xs) 8 64 = some (.aload_n 3, 1) := x_ins (j := 38) kk8 ia8 rfl
theorem i8_65 {xs : List Int32} : xtI (xTa xs) 8 65 = some (.iconst 0, 1) := x_ins (j := 39) kk8 ia8 rfl
theorem i8_66 {xs : List Int32} : xtI (xTa xs) 8 66 = some (.putfield 86, 3) := x_ins (j := 40) kk8 ia8 rfl
theorem i8_69 {xs : List Int32} : xtI (xTa xs) 8 69 = some (.aload_n 3, 1) := x_ins (j := 41) kk8 ia8 rfl
theorem i8_70 {xs : List Int32} : xtI (xTa xs) 8 70 = some (.areturn, 1) := x_ins (j := 42) kk8 ia8 rfl
theorem kk9 : xK0.getD 9 [] = k9 := rfl
set_option maxRecDepth 100000 in
theorem ia9 : (k9.all fun e => decide (k9.lookup e.1 = some e.2)) = true := by decide +kernel
theorem i9_0 {xs : List Int32} : xtI (xTa xs) 9 0 = some (.iconst 0, 1) := x_ins (j := 0) kk9 ia9 rfl
theorem i9_1 {xs : List Int32} : xtI (xTa xs) 9 1 = some (.istore_n 2, 1) := x_ins (j := 1) kk9 ia9 rfl
theorem i9_2 {xs : List Int32} : xtI (xTa xs) 9 2 = some (.iload_n 2, 1) := x_ins (j := 2) kk9 ia9 rfl
theorem i9_3 {xs : List Int32} : xtI (xTa xs) 9 3 = some (.aload_n 0, 1) := x_ins (j := 3) kk9 ia9 rfl
theorem i9_4 {xs : List Int32} : xtI (xTa xs) 9 4 = some (.getfield 42, 3) := x_ins (j := 4) kk9 ia9 rfl
theorem i9_7 {xs : List Int32} : xtI (xTa xs) 9 7 = some (.if_icmp .ge 29, 3) := x_ins (j := 5) kk9 ia9 rfl
theorem i9_10 {xs : List Int32} : xtI (xTa xs) 9 10 = some (.aload_n 0, 1) := x_ins (j := 6) kk9 ia9 rfl
theorem i9_11 {xs : List Int32} : xtI (xTa xs) 9 11 = some (.getfield 22, 3) := x_ins (j := 7) kk9 ia9 rfl
theorem i9_14 {xs : List Int32} : xtI (xTa xs) 9 14 = some (.iload_n 2, 1) := x_ins (j := 8) kk9 ia9 rfl
theorem i9_15 {xs : List Int32} : xtI (xTa xs) 9 15 = some (.aaload, 1) := x_ins (j := 9) kk9 ia9 rfl
theorem i9_16 {xs : List Int32} : xtI (xTa xs) 9 16 = some (.getfield 53, 3) := x_ins (j := 10) kk9 ia9 rfl
theorem i9_19 {xs : List Int32} : xtI (xTa xs) 9 19 = some (.iload_n 1, 1) := x_ins (j := 11) kk9 ia9 rfl
theorem i9_20 {xs : List Int32} : xtI (xTa xs) 9 20 = some (.if_icmp .ne 10, 3) := x_ins (j := 12) kk9 ia9 rfl
theorem i9_23 {xs : List Int32} : xtI (xTa xs) 9 23 = some (.aload_n 0, 1) := x_ins (j := 13) kk9 ia9 rfl
theorem i9_24 {xs : List Int32} : xtI (xTa xs) 9 24 = some (.getfield 22, 3) := x_ins (j := 14) kk9 ia9 rfl
theorem i9_27 {xs : List Int32} : xtI (xTa xs) 9 27 = some (.iload_n 2, 1) := x_ins (j := 15) kk9 ia9 rfl
theorem i9_28 {xs : List Int32} : xtI (xTa xs) 9 28 = some (.aaload, 1) := x_ins (j := 16) kk9 ia9 rfl
theorem i9_29 {xs : List Int32} : xtI (xTa xs) 9 29 = some (.areturn, 1) := x_ins (j := 17) kk9 ia9 rfl
theorem i9_30 {xs : List Int32} : xtI (xTa xs) 9 30 = some (.iinc 2 1, 3) := x_ins (j := 18) kk9 ia9 rfl
theorem i9_33 {xs : List Int32} : xtI (xTa xs) 9 33 = some (.goto (-31), 3) := x_ins (j := 19) kk9 ia9 rfl
theorem i9_36 {xs : List Int32} : xtI (xTa xs) 9 36 = some (.aconst_null, 1) := x_ins (j := 20) kk9 ia9 rfl
theorem i9_37 {xs : List Int32} : xtI (xTa xs) 9 37 = some (.areturn, 1) := x_ins (j := 21) kk9 ia9 rfl
theorem kk10 : xK0.getD 10 [] = k10 := rfl
set_option maxRecDepth 100000 in
theorem ia10 : (k10.all fun e => decide (k10.lookup e.1 = some e.2)) = true := by decide +kernel
theorem i10_0 {xs : List Int32} : xtI (xTa xs) 10 0 = some (.iconst 0, 1) := x_ins (j := 0) kk10 ia10 rfl
theorem i10_1 {xs : List Int32} : xtI (xTa xs) 10 1 = some (.istore_n 2, 1) := x_ins (j := 1) kk10 ia10 rfl
theorem i10_2 {xs : List Int32} : xtI (xTa xs) 10 2 = some (.iload_n 2, 1) := x_ins (j := 2) kk10 ia10 rfl
theorem i10_3 {xs : List Int32} : xtI (xTa xs) 10 3 = some (.aload_n 0, 1) := x_ins (j := 3) kk10 ia10 rfl
theorem i10_4 {xs : List Int32} : xtI (xTa xs) 10 4 = some (.getfield 42, 3) := x_ins (j := 4) kk10 ia10 rfl
theorem i10_7 {xs : List Int32} : xtI (xTa xs) 10 7 = some (.if_icmp .ge 45, 3) := x_ins (j := 5) kk10 ia10 rfl
theorem i10_10 {xs : List Int32} : xtI (xTa xs) 10 10 = some (.aload_n 0, 1) := x_ins (j := 6) kk10 ia10 rfl
theorem i10_11 {xs : List Int32} : xtI (xTa xs) 10 11 = some (.getfield 22, 3) := x_ins (j := 7) kk10 ia10 rfl
theorem i10_14 {xs : List Int32} : xtI (xTa xs) 10 14 = some (.iload_n 2, 1) := x_ins (j := 8) kk10 ia10 rfl
theorem i10_15 {xs : List Int32} : xtI (xTa xs) 10 15 = some (.aaload, 1) := x_ins (j := 9) kk10 ia10 rfl
theorem i10_16 {xs : List Int32} : xtI (xTa xs) 10 16 = some (.astore_n 3, 1) := x_ins (j := 10) kk10 ia10 rfl
theorem i10_17 {xs : List Int32} : xtI (xTa xs) 10 17 = some (.aload_n 3, 1) := x_ins (j := 11) kk10 ia10 rfl
theorem i10_18 {xs : List Int32} : xtI (xTa xs) 10 18 = some (.getfield 53, 3) := x_ins (j := 12) kk10 ia10 rfl
theorem i10_21 {xs : List Int32} : xtI (xTa xs) 10 21 = some (.iconst 2, 1) := x_ins (j := 13) kk10 ia10 rfl
theorem i10_22 {xs : List Int32} : xtI (xTa xs) 10 22 = some (.if_icmp .ne 24, 3) := x_ins (j := 14) kk10 ia10 rfl
theorem i10_25 {xs : List Int32} : xtI (xTa xs) 10 25 = some (.aload_n 1, 1) := x_ins (j := 15) kk10 ia10 rfl
theorem i10_26 {xs : List Int32} : xtI (xTa xs) 10 26 = some (.aload_n 0, 1) := x_ins (j := 16) kk10 ia10 rfl
theorem i10_27 {xs : List Int32} : xtI (xTa xs) 10 27 = some (.getfield 14, 3) := x_ins (j := 17) kk10 ia10 rfl
theorem i10_30 {xs : List Int32} : xtI (xTa xs) 10 30 = some (.aload_n 3, 1) := x_ins (j := 18) kk10 ia10 rfl
theorem i10_31 {xs : List Int32} : xtI (xTa xs) 10 31 = some (.getfield 66, 3) := x_ins (j := 19) kk10 ia10 rfl
theorem i10_34 {xs : List Int32} : xtI (xTa xs) 10 34 = some (.aload_n 3, 1) := x_ins (j := 20) kk10 ia10 rfl
theorem i10_35 {xs : List Int32} : xtI (xTa xs) 10 35 = some (.getfield 69, 3) := x_ins (j := 21) kk10 ia10 rfl
theorem i10_38 {xs : List Int32} : xtI (xTa xs) 10 38 = some (.invokevirtual 89, 3) := x_ins (j := 22) kk10 ia10 rfl
theorem i10_41 {xs : List Int32} : xtI (xTa xs) 10 41 = some (.ifCond .eq 5, 3) := x_ins (j := 23) kk10 ia10 rfl
theorem i10_44 {xs : List Int32} : xtI (xTa xs) 10 44 = some (.iconst 1, 1) := x_ins (j := 24) kk10 ia10 rfl
theorem i10_45 {xs : List Int32} : xtI (xTa xs) 10 45 = some (.ireturn, 1) := x_ins (j := 25) kk10 ia10 rfl
theorem i10_46 {xs : List Int32} : xtI (xTa xs) 10 46 = some (.iinc 2 1, 3) := x_ins (j := 26) kk10 ia10 rfl
theorem i10_49 {xs : List Int32} : xtI (xTa xs) 10 49 = some (.goto (-47), 3) := x_ins (j := 27) kk10 ia10 rfl
theorem i10_52 {xs : List Int32} : xtI (xTa xs) 10 52 = some (.iconst 0, 1) := x_ins (j := 28) kk10 ia10 rfl
theorem i10_53 {xs : List Int32} : xtI (xTa xs) 10 53 = some (.ireturn, 1) := x_ins (j := 29) kk10 ia10 rfl
theorem kk11 : xK0.getD 11 [] = k11 := rfl
set_option maxRecDepth 100000 in
theorem ia11 : (k11.all fun e => decide (k11.lookup e.1 = some e.2)) = true := by decide +kernel
theorem i11_0 {xs : List Int32} : xtI (xTa xs) 11 0 = some (.aload_n 0, 1) := x_ins (j := 0) kk11 ia11 rfl
theorem i11_1 {xs : List Int32} : xtI (xTa xs) 11 1 = some (.invokespecial 3, 3) := x_ins (j := 1) kk11 ia11 rfl
theorem i11_4 {xs : List Int32} : xtI (xTa xs) 11 4 = some (.aload_n 0, 1) := x_ins (j := 2) kk11 ia11 rfl
theorem i11_5 {xs : List Int32} : xtI (xTa xs) 11 5 = some (.iload_n 1, 1) := x_ins (j := 3) kk11 ia11 rfl
theorem i11_6 {xs : List Int32} : xtI (xTa xs) 11 6 = some (.putfield 9, 3) := x_ins (j := 4) kk11 ia11 rfl
theorem i11_9 {xs : List Int32} : xtI (xTa xs) 11 9 = some (.aload_n 0, 1) := x_ins (j := 5) kk11 ia11 rfl
theorem i11_10 {xs : List Int32} : xtI (xTa xs) 11 10 = some (.aload_n 2, 1) := x_ins (j := 6) kk11 ia11 rfl
theorem i11_11 {xs : List Int32} : xtI (xTa xs) 11 11 = some (.putfield 15, 3) := x_ins (j := 7) kk11 ia11 rfl
theorem i11_14 {xs : List Int32} : xtI (xTa xs) 11 14 = some (.aload_n 0, 1) := x_ins (j := 8) kk11 ia11 rfl
theorem i11_15 {xs : List Int32} : xtI (xTa xs) 11 15 = some (.aload_n 3, 1) := x_ins (j := 9) kk11 ia11 rfl
theorem i11_16 {xs : List Int32} : xtI (xTa xs) 11 16 = some (.putfield 19, 3) := x_ins (j := 10) kk11 ia11 rfl
theorem i11_19 {xs : List Int32} : xtI (xTa xs) 11 19 = some (.aload_n 0, 1) := x_ins (j := 11) kk11 ia11 rfl
theorem i11_20 {xs : List Int32} : xtI (xTa xs) 11 20 = some (.iload 4, 2) := x_ins (j := 12) kk11 ia11 rfl
theorem i11_22 {xs : List Int32} : xtI (xTa xs) 11 22 = some (.putfield 22, 3) := x_ins (j := 13) kk11 ia11 rfl
theorem i11_25 {xs : List Int32} : xtI (xTa xs) 11 25 = some (.aload_n 0, 1) := x_ins (j := 14) kk11 ia11 rfl
theorem i11_26 {xs : List Int32} : xtI (xTa xs) 11 26 = some (.new 26, 3) := x_ins (j := 15) kk11 ia11 rfl
theorem i11_29 {xs : List Int32} : xtI (xTa xs) 11 29 = some (.dup, 1) := x_ins (j := 16) kk11 ia11 rfl
theorem i11_30 {xs : List Int32} : xtI (xTa xs) 11 30 = some (.bipush 10, 2) := x_ins (j := 17) kk11 ia11 rfl
theorem i11_32 {xs : List Int32} : xtI (xTa xs) 11 32 = some (.invokespecial 28, 3) := x_ins (j := 18) kk11 ia11 rfl
theorem i11_35 {xs : List Int32} : xtI (xTa xs) 11 35 = some (.putfield 31, 3) := x_ins (j := 19) kk11 ia11 rfl
theorem i11_38 {xs : List Int32} : xtI (xTa xs) 11 38 = some (.aload_n 0, 1) := x_ins (j := 20) kk11 ia11 rfl
theorem i11_39 {xs : List Int32} : xtI (xTa xs) 11 39 = some (.iconst 4, 1) := x_ins (j := 21) kk11 ia11 rfl
theorem i11_40 {xs : List Int32} : xtI (xTa xs) 11 40 = some (.anewarray 26, 3) := x_ins (j := 22) kk11 ia11 rfl
theorem i11_43 {xs : List Int32} : xtI (xTa xs) 11 43 = some (.putfield 35, 3) := x_ins (j := 23) kk11 ia11 rfl
theorem i11_46 {xs : List Int32} : xtI (xTa xs) 11 46 = some (.return_, 1) := x_ins (j := 24) kk11 ia11 rfl
theorem kk12 : xK0.getD 12 [] = k12 := rfl
set_option maxRecDepth 100000 in
theorem ia12 : (k12.all fun e => decide (k12.lookup e.1 = some e.2)) = true := by decide +kernel
theorem i12_0 {xs : List Int32} : xtI (xTa xs) 12 0 = some (.aload_n 0, 1) := x_ins (j := 0) kk12 ia12 rfl
theorem i12_1 {xs : List Int32} : xtI (xTa xs) 12 1 = some (.getfield 15, 3) := x_ins (j := 1) kk12 ia12 rfl
theorem i12_4 {xs : List Int32} : xtI (xTa xs) 12 4 = some (.ifnonnull 7, 3) := x_ins (j := 2) kk12 ia12 rfl
theorem i12_7 {xs : List Int32} : xtI (xTa xs) 12 7 = some (.iconst 1, 1) := x_ins (j := 3) kk12 ia12 rfl
theorem i12_8 {xs : List Int32} : xtI (xTa xs) 12 8 = some (.goto 4, 3) := x_ins (j := 4) kk12 ia12 rfl
theorem i12_11 {xs : List Int32} : xtI (xTa xs) 12 11 = some (.iconst 0, 1) := x_ins (j := 5) kk12 ia12 rfl
theorem i12_12 {xs : List Int32} : xtI (xTa xs) 12 12 = some (.ireturn, 1) := x_ins (j := 6) kk12 ia12 rfl
theorem kk13 : xK0.getD 13 [] = k13 := rfl
set_option maxRecDepth 100000 in
theorem ia13 : (k13.all fun e => decide (k13.lookup e.1 = some e.2)) = true := by decide +kernel
theorem i13_0 {xs : List Int32} : xtI (xTa xs) 13 0 = some (.aload_n 0, 1) := x_ins (j := 0) kk13 ia13 rfl
theorem i13_1 {xs : List Int32} : xtI (xTa xs) 13 1 = some (.getfield 15, 3) := x_ins (j := 1) kk13 ia13 rfl
theorem i13_4 {xs : List Int32} : xtI (xTa xs) 13 4 = some (.ifnonnull 7, 3) := x_ins (j := 2) kk13 ia13 rfl
theorem i13_7 {xs : List Int32} : xtI (xTa xs) 13 7 = some (.aload_n 0, 1) := x_ins (j := 3) kk13 ia13 rfl
theorem i13_8 {xs : List Int32} : xtI (xTa xs) 13 8 = some (.goto 7, 3) := x_ins (j := 4) kk13 ia13 rfl
theorem i13_11 {xs : List Int32} : xtI (xTa xs) 13 11 = some (.aload_n 0, 1) := x_ins (j := 5) kk13 ia13 rfl
theorem i13_12 {xs : List Int32} : xtI (xTa xs) 13 12 = some (.getfield 15, 3) := x_ins (j := 6) kk13 ia13 rfl
theorem i13_15 {xs : List Int32} : xtI (xTa xs) 13 15 = some (.areturn, 1) := x_ins (j := 7) kk13 ia13 rfl
theorem kk14 : xK0.getD 14 [] = k14 := rfl
set_option maxRecDepth 100000 in
theorem ia14 : (k14.all fun e => decide (k14.lookup e.1 = some e.2)) = true := by decide +kernel
theorem i14_0 {xs : List Int32} : xtI (xTa xs) 14 0 = some (.aload_n 0, 1) := x_ins (j := 0) kk14 ia14 rfl
theorem i14_1 {xs : List Int32} : xtI (xTa xs) 14 1 = some (.getfield 39, 3) := x_ins (j := 1) kk14 ia14 rfl
theorem i14_4 {xs : List Int32} : xtI (xTa xs) 14 4 = some (.ifCond .eq 10, 3) := x_ins (j := 2) kk14 ia14 rfl
theorem i14_7 {xs : List Int32} : xtI (xTa xs) 14 7 = some (.aload_n 0, 1) := x_ins (j := 3) kk14 ia14 rfl
theorem i14_8 {xs : List Int32} : xtI (xTa xs) 14 8 = some (.getfield 42, 3) := x_ins (j := 4) kk14 ia14 rfl
theorem i14_11 {xs : List Int32} : xtI (xTa xs) 14 11 = some (.goto 4, 3) := x_ins (j := 5) kk14 ia14 rfl
theorem i14_14 {xs : List Int32} : xtI (xTa xs) 14 14 = some (.aconst_null, 1) := x_ins (j := 6) kk14 ia14 rfl
theorem i14_15 {xs : List Int32} : xtI (xTa xs) 14 15 = some (.areturn, 1) := x_ins (j := 7) kk14 ia14 rfl
theorem kk15 : xK0.getD 15 [] = k15 := rfl
set_option maxRecDepth 100000 in
theorem ia15 : (k15.all fun e => decide (k15.lookup e.1 = some e.2)) = true := by decide +kernel
theorem i15_0 {xs : List Int32} : xtI (xTa xs) 15 0 = some (.iload_n 1, 1) := x_ins (j := 0) kk15 ia15 rfl
theorem i15_1 {xs : List Int32} : xtI (xTa xs) 15 1 = some (.ifCond .lt 11, 3) := x_ins (j := 1) kk15 ia15 rfl
theorem i15_4 {xs : List Int32} : xtI (xTa xs) 15 4 = some (.iload_n 1, 1) := x_ins (j := 2) kk15 ia15 rfl
theorem i15_5 {xs : List Int32} : xtI (xTa xs) 15 5 = some (.aload_n 0, 1) := x_ins (j := 3) kk15 ia15 rfl
theorem i15_6 {xs : List Int32} : xtI (xTa xs) 15 6 = some (.getfield 46, 3) := x_ins (j := 4) kk15 ia15 rfl
theorem i15_9 {xs : List Int32} : xtI (xTa xs) 15 9 = some (.if_icmp .lt 7, 3) := x_ins (j := 5) kk15 ia15 rfl
theorem i15_12 {xs : List Int32} : xtI (xTa xs) 15 12 = some (.aconst_null, 1) := x_ins (j := 6) kk15 ia15 rfl
theorem i15_13 {xs : List Int32} : xtI (xTa xs) 15 13 = some (.goto 9, 3) := x_ins (j := 7) kk15 ia15 rfl
theorem i15_16 {xs : List Int32} : xtI (xTa xs) 15 16 = some (.aload_n 0, 1) := x_ins (j := 8) kk15 ia15 rfl
theorem i15_17 {xs : List Int32} : xtI (xTa xs) 15 17 = some (.getfield 35, 3) := x_ins (j := 9) kk15 ia15 rfl
theorem i15_20 {xs : List Int32} : xtI (xTa xs) 15 20 = some (.iload_n 1, 1) := x_ins (j := 10) kk15 ia15 rfl
theorem i15_21 {xs : List Int32} : xtI (xTa xs) 15 21 = some (.aaload, 1) := x_ins (j := 11) kk15 ia15 rfl
theorem i15_22 {xs : List Int32} : xtI (xTa xs) 15 22 = some (.areturn, 1) := x_ins (j := 12) kk15 ia15 rfl
theorem kk16 : xK0.getD 16 [] = k16 := rfl
set_option maxRecDepth 100000 in
theorem ia16 : (k16.all fun e => decide (k16.lookup e.1 = some e.2)) = true := by decide +kernel
theorem i16_0 {xs : List Int32} : xtI (xTa xs) 16 0 = some (.iconst 0, 1) := x_ins (j := 0) kk16 ia16 rfl
theorem i16_1 {xs : List Int32} : xtI (xTa xs) 16 1 = some (.istore 4, 2) := x_ins (j := 1) kk16 ia16 rfl
theorem i16_3 {xs : List Int32} : xtI (xTa xs) 16 3 = some (.iload 4, 2) := x_ins (j := 2) kk16 ia16 rfl
theorem i16_5 {xs : List Int32} : xtI (xTa xs) 16 5 = some (.aload_n 0, 1) := x_ins (j := 3) kk16 ia16 rfl
theorem i16_6 {xs : List Int32} : xtI (xTa xs) 16 6 = some (.getfield 46, 3) := x_ins (j := 4) kk16 ia16 rfl
theorem i16_9 {xs : List Int32} : xtI (xTa xs) 16 9 = some (.if_icmp .ge 35, 3) := x_ins (j := 5) kk16 ia16 rfl
theorem i16_12 {xs : List Int32} : xtI (xTa xs) 16 12 = some (.aload_n 0, 1) := x_ins (j := 6) kk16 ia16 rfl
theorem i16_13 {xs : List Int32} : xtI (xTa xs) 16 13 = some (.iload 4, 2) := x_ins (j := 7) kk16 ia16 rfl
theorem i16_15 {xs : List Int32} : xtI (xTa xs) 16 15 = some (.invokevirtual 49, 3) := x_ins (j := 8) kk16 ia16 rfl
theorem i16_18 {xs : List Int32} : xtI (xTa xs) 16 18 = some (.astore 5, 2) := x_ins (j := 9) kk16 ia16 rfl
theorem i16_20 {xs : List Int32} : xtI (xTa xs) 16 20 = some (.aload 5, 2) := x_ins (j := 10) kk16 ia16 rfl
theorem i16_22 {xs : List Int32} : xtI (xTa xs) 16 22 = some (.ifnull 16, 3) := x_ins (j := 11) kk16 ia16 rfl
theorem i16_25 {xs : List Int32} : xtI (xTa xs) 16 25 = some (.aload 5, 2) := x_ins (j := 12) kk16 ia16 rfl
theorem i16_27 {xs : List Int32} : xtI (xTa xs) 16 27 = some (.aload_n 1, 1) := x_ins (j := 13) kk16 ia16 rfl
theorem i16_28 {xs : List Int32} : xtI (xTa xs) 16 28 = some (.iload_n 2, 1) := x_ins (j := 14) kk16 ia16 rfl
theorem i16_29 {xs : List Int32} : xtI (xTa xs) 16 29 = some (.iload_n 3, 1) := x_ins (j := 15) kk16 ia16 rfl
theorem i16_30 {xs : List Int32} : xtI (xTa xs) 16 30 = some (.invokevirtual 53, 3) := x_ins (j := 16) kk16 ia16 rfl
theorem i16_33 {xs : List Int32} : xtI (xTa xs) 16 33 = some (.ifCond .eq 5, 3) := x_ins (j := 17) kk16 ia16 rfl
theorem i16_36 {xs : List Int32} : xtI (xTa xs) 16 36 = some (.iconst 1, 1) := x_ins (j := 18) kk16 ia16 rfl
theorem i16_37 {xs : List Int32} : xtI (xTa xs) 16 37 = some (.ireturn, 1) := x_ins (j := 19) kk16 ia16 rfl
theorem i16_38 {xs : List Int32} : xtI (xTa xs) 16 38 = some (.iinc 4 1, 3) := x_ins (j := 20) kk16 ia16 rfl
theorem i16_41 {xs : List Int32} : xtI (xTa xs) 16 41 = some (.goto (-38), 3) := x_ins (j := 21) kk16 ia16 rfl
theorem i16_44 {xs : List Int32} : xtI (xTa xs) 16 44 = some (.iconst 0, 1) := x_ins (j := 22) kk16 ia16 rfl
theorem i16_45 {xs : List Int32} : xtI (xTa xs) 16 45 = some (.ireturn, 1) := x_ins (j := 23) kk16 ia16 rfl
theorem kk17 : xK0.getD 17 [] = k17 := rfl
set_option maxRecDepth 100000 in
theorem ia17 : (k17.all fun e => decide (k17.lookup e.1 = some e.2)) = true := by decide +kernel
theorem i17_0 {xs : List Int32} : xtI (xTa xs) 17 0 = some (.aload_n 0, 1) := x_ins (j := 0) kk17 ia17 rfl
theorem i17_1 {xs : List Int32} : xtI (xTa xs) 17 1 = some (.getfield 46, 3) := x_ins (j := 1) kk17 ia17 rfl
theorem i17_4 {xs : List Int32} : xtI (xTa xs) 17 4 = some (.aload_n 0, 1) := x_ins (j := 2) kk17 ia17 rfl
theorem i17_5 {xs : List Int32} : xtI (xTa xs) 17 5 = some (.getfield 35, 3) := x_ins (j := 3) kk17 ia17 rfl
theorem i17_8 {xs : List Int32} : xtI (xTa xs) 17 8 = some (.arraylength, 1) := x_ins (j := 4) kk17 ia17 rfl
theorem i17_9 {xs : List Int32} : xtI (xTa xs) 17 9 = some (.if_icmp .lt 6, 3) := x_ins (j := 5) kk17 ia17 rfl
theorem i17_12 {xs : List Int32} : xtI (xTa xs) 17 12 = some (.bipush (-3), 2) := x_ins (j := 6) kk17 ia17 rfl
theorem i17_14 {xs : List Int32} : xtI (xTa xs) 17 14 = some (.ireturn, 1) := x_ins (j := 7) kk17 ia17 rfl
theorem i17_15 {xs : List Int32} : xtI (xTa xs) 17 15 = some (.new 26, 3) := x_ins (j := 8) kk17 ia17 rfl
theorem i17_18 {xs : List Int32} : xtI (xTa xs) 17 18 = some (.dup, 1) := x_ins (j := 9) kk17 ia17 rfl
theorem i17_19 {xs : List Int32} : xtI (xTa xs) 17 19 = some (.bipush 10, 2) := x_ins (j := 10) kk17 ia17 rfl
theorem i17_21 {xs : List Int32} : xtI (xTa xs) 17 21 = some (.invokespecial 28, 3) := x_ins (j := 11) kk17 ia17 rfl
theorem i17_24 {xs : List Int32} : xtI (xTa xs) 17 24 = some (.astore_n 2, 1) := x_ins (j := 12) kk17 ia17 rfl
theorem i17_25 {xs : List Int32} : xtI (xTa xs) 17 25 = some (.aload_n 2, 1) := x_ins (j := 13) kk17 ia17 rfl
theorem i17_26 {xs : List Int32} : xtI (xTa xs) 17 26 = some (.aload_n 1, 1) := x_ins (j := 14) kk17 ia17 rfl
theorem i17_27 {xs : List Int32} : xtI (xTa xs) 17 27 = some (.invokevirtual 57, 3) := x_ins (j := 15) kk17 ia17 rfl
theorem i17_30 {xs : List Int32} : xtI (xTa xs) 17 30 = some (.aload_n 0, 1) := x_ins (j := 16) kk17 ia17 rfl
theorem i17_31 {xs : List Int32} : xtI (xTa xs) 17 31 = some (.getfield 35, 3) := x_ins (j := 17) kk17 ia17 rfl
theorem i17_34 {xs : List Int32} : xtI (xTa xs) 17 34 = some (.aload_n 0, 1) := x_ins (j := 18) kk17 ia17 rfl
theorem i17_35 {xs : List Int32} : xtI (xTa xs) 17 35 = some (.getfield 46, 3) := x_ins (j := 19) kk17 ia17 rfl
theorem i17_38 {xs : List Int32} : xtI (xTa xs) 17 38 = some (.aload_n 2, 1) := x_ins (j := 20) kk17 ia17 rfl
theorem i17_39 {xs : List Int32} : xtI (xTa xs) 17 39 = some (.aastore, 1) := x_ins (j := 21) kk17 ia17 rfl
theorem i17_40 {xs : List Int32} : xtI (xTa xs) 17 40 = some (.aload_n 0, 1) := x_ins (j := 22) kk17 ia17 rfl
theorem i17_41 {xs : List Int32} : xtI (xTa xs) 17 41 = some (.dup, 1) := x_ins (j := 23) kk17 ia17 rfl
theorem i17_42 {xs : List Int32} : xtI (xTa xs) 17 42 = some (.getfield 46, 3) := x_ins (j := 24) kk17 ia17 rfl
theorem i17_45 {xs : List Int32} : xtI (xTa xs) 17 45 = some (.iconst 1, 1) := x_ins (j := 25) kk17 ia17 rfl
theorem i17_46 {xs : List Int32} : xtI (xTa xs) 17 46 = some (.iadd, 1) := x_ins (j := 26) kk17 ia17 rfl
theorem i17_47 {xs : List Int32} : xtI (xTa xs) 17 47 = some (.putfield 46, 3) := x_ins (j := 27) kk17 ia17 rfl
theorem i17_50 {xs : List Int32} : xtI (xTa xs) 17 50 = some (.aload_n 0, 1) := x_ins (j := 28) kk17 ia17 rfl
theorem i17_51 {xs : List Int32} : xtI (xTa xs) 17 51 = some (.getfield 46, 3) := x_ins (j := 29) kk17 ia17 rfl
theorem i17_54 {xs : List Int32} : xtI (xTa xs) 17 54 = some (.ireturn, 1) := x_ins (j := 30) kk17 ia17 rfl
theorem kk18 : xK0.getD 18 [] = k18 := rfl
set_option maxRecDepth 100000 in
theorem ia18 : (k18.all fun e => decide (k18.lookup e.1 = some e.2)) = true := by decide +kernel
theorem i18_0 {xs : List Int32} : xtI (xTa xs) 18 0 = some (.aload_n 0, 1) := x_ins (j := 0) kk18 ia18 rfl
theorem i18_1 {xs : List Int32} : xtI (xTa xs) 18 1 = some (.invokespecial 3, 3) := x_ins (j := 1) kk18 ia18 rfl
theorem i18_4 {xs : List Int32} : xtI (xTa xs) 18 4 = some (.aload_n 0, 1) := x_ins (j := 2) kk18 ia18 rfl
theorem i18_5 {xs : List Int32} : xtI (xTa xs) 18 5 = some (.sipush 960, 3) := x_ins (j := 3) kk18 ia18 rfl
theorem i18_8 {xs : List Int32} : xtI (xTa xs) 18 8 = some (.anewarray 9, 3) := x_ins (j := 4) kk18 ia18 rfl
theorem i18_11 {xs : List Int32} : xtI (xTa xs) 18 11 = some (.putfield 11, 3) := x_ins (j := 5) kk18 ia18 rfl
theorem i18_14 {xs : List Int32} : xtI (xTa xs) 18 14 = some (.aload_n 0, 1) := x_ins (j := 6) kk18 ia18 rfl
theorem i18_15 {xs : List Int32} : xtI (xTa xs) 18 15 = some (.new 17, 3) := x_ins (j := 7) kk18 ia18 rfl
theorem i18_18 {xs : List Int32} : xtI (xTa xs) 18 18 = some (.dup, 1) := x_ins (j := 8) kk18 ia18 rfl
theorem i18_19 {xs : List Int32} : xtI (xTa xs) 18 19 = some (.sipush 1200, 3) := x_ins (j := 9) kk18 ia18 rfl
theorem i18_22 {xs : List Int32} : xtI (xTa xs) 18 22 = some (.invokespecial 19, 3) := x_ins (j := 10) kk18 ia18 rfl
theorem i18_25 {xs : List Int32} : xtI (xTa xs) 18 25 = some (.putfield 22, 3) := x_ins (j := 11) kk18 ia18 rfl
theorem i18_28 {xs : List Int32} : xtI (xTa xs) 18 28 = some (.aload_n 0, 1) := x_ins (j := 12) kk18 ia18 rfl
theorem i18_29 {xs : List Int32} : xtI (xTa xs) 18 29 = some (.bipush 122, 2) := x_ins (j := 13) kk18 ia18 rfl
theorem i18_31 {xs : List Int32} : xtI (xTa xs) 18 31 = some (.newarray .int, 2) := x_ins (j := 14) kk18 ia18 rfl
theorem i18_33 {xs : List Int32} : xtI (xTa xs) 18 33 = some (.putfield 26, 3) := x_ins (j := 15) kk18 ia18 rfl
theorem i18_36 {xs : List Int32} : xtI (xTa xs) 18 36 = some (.aload_n 0, 1) := x_ins (j := 16) kk18 ia18 rfl
theorem i18_37 {xs : List Int32} : xtI (xTa xs) 18 37 = some (.bipush 122, 2) := x_ins (j := 17) kk18 ia18 rfl
theorem i18_39 {xs : List Int32} : xtI (xTa xs) 18 39 = some (.newarray .int, 2) := x_ins (j := 18) kk18 ia18 rfl
theorem i18_41 {xs : List Int32} : xtI (xTa xs) 18 41 = some (.putfield 30, 3) := x_ins (j := 19) kk18 ia18 rfl
theorem i18_44 {xs : List Int32} : xtI (xTa xs) 18 44 = some (.aload_n 0, 1) := x_ins (j := 20) kk18 ia18 rfl
theorem i18_45 {xs : List Int32} : xtI (xTa xs) 18 45 = some (.bipush 122, 2) := x_ins (j := 21) kk18 ia18 rfl
theorem i18_47 {xs : List Int32} : xtI (xTa xs) 18 47 = some (.newarray .int, 2) := x_ins (j := 22) kk18 ia18 rfl
theorem i18_49 {xs : List Int32} : xtI (xTa xs) 18 49 = some (.putfield 33, 3) := x_ins (j := 23) kk18 ia18 rfl
theorem i18_52 {xs : List Int32} : xtI (xTa xs) 18 52 = some (.return_, 1) := x_ins (j := 24) kk18 ia18 rfl
theorem kk19 : xK0.getD 19 [] = k19 := rfl
set_option maxRecDepth 100000 in
theorem ia19 : (k19.all fun e => decide (k19.lookup e.1 = some e.2)) = true := by decide +kernel
theorem i19_0 {xs : List Int32} : xtI (xTa xs) 19 0 = some (.aload_n 0, 1) := x_ins (j := 0) kk19 ia19 rfl
theorem i19_1 {xs : List Int32} : xtI (xTa xs) 19 1 = some (.iconst 0, 1) := x_ins (j := 1) kk19 ia19 rfl
theorem i19_2 {xs : List Int32} : xtI (xTa xs) 19 2 = some (.putfield 36, 3) := x_ins (j := 2) kk19 ia19 rfl
theorem i19_5 {xs : List Int32} : xtI (xTa xs) 19 5 = some (.return_, 1) := x_ins (j := 3) kk19 ia19 rfl
theorem kk20 : xK0.getD 20 [] = k20 := rfl
set_option maxRecDepth 100000 in
theorem ia20 : (k20.all fun e => decide (k20.lookup e.1 = some e.2)) = true := by decide +kernel
theorem i20_0 {xs : List Int32} : xtI (xTa xs) 20 0 = some (.aload_n 2, 1) := x_ins (j := 0) kk20 ia20 rfl
theorem i20_1 {xs : List Int32} : xtI (xTa xs) 20 1 = some (.ifnull 16, 3) := x_ins (j := 1) kk20 ia20 rfl
theorem i20_4 {xs : List Int32} : xtI (xTa xs) 20 4 = some (.aload_n 2, 1) := x_ins (j := 2) kk20 ia20 rfl
theorem i20_5 {xs : List Int32} : xtI (xTa xs) 20 5 = some (.getfield 40, 3) := x_ins (j := 3) kk20 ia20 rfl
theorem i20_8 {xs : List Int32} : xtI (xTa xs) 20 8 = some (.ifnull 9, 3) := x_ins (j := 4) kk20 ia20 rfl
theorem i20_11 {xs : List Int32} : xtI (xTa xs) 20 11 = some (.iload_n 3, 1) := x_ins (j := 5) kk20 ia20 rfl
theorem i20_12 {xs : List Int32} : xtI (xTa xs) 20 12 = some (.bipush 40, 2) := x_ins (j := 6) kk20 ia20 rfl
theorem i20_14 {xs : List Int32} : xtI (xTa xs) 20 14 = some (.if_icmp .le 4, 3) := x_ins (j := 7) kk20 ia20 rfl
theorem i20_17 {xs : List Int32} : xtI (xTa xs) 20 17 = some (.return_, 1) := x_ins (j := 8) kk20 ia20 rfl
theorem i20_18 {xs : List Int32} : xtI (xTa xs) 20 18 = some (.aload_n 2, 1) := x_ins (j := 9) kk20 ia20 rfl
theorem i20_19 {xs : List Int32} : xtI (xTa xs) 20 19 = some (.getfield 40, 3) := x_ins (j := 10) kk20 ia20 rfl
theorem i20_22 {xs : List Int32} : xtI (xTa xs) 20 22 = some (.astore 4, 2) := x_ins (j := 11) kk20 ia20 rfl
theorem i20_24 {xs : List Int32} : xtI (xTa xs) 20 24 = some (.iconst 0, 1) := x_ins (j := 12) kk20 ia20 rfl
theorem i20_25 {xs : List Int32} : xtI (xTa xs) 20 25 = some (.istore 5, 2) := x_ins (j := 13) kk20 ia20 rfl
theorem i20_27 {xs : List Int32} : xtI (xTa xs) 20 27 = some (.iload 5, 2) := x_ins (j := 14) kk20 ia20 rfl
theorem i20_29 {xs : List Int32} : xtI (xTa xs) 20 29 = some (.aload 4, 2) := x_ins (j := 15) kk20 ia20 rfl
theorem i20_31 {xs : List Int32} : xtI (xTa xs) 20 31 = some (.getfield 46, 3) := x_ins (j := 16) kk20 ia20 rfl
theorem i20_34 {xs : List Int32} : xtI (xTa xs) 20 34 = some (.if_icmp .ge 71, 3) := x_ins (j := 17) kk20 ia20 rfl
theorem i20_37 {xs : List Int32} : xtI (xTa xs) 20 37 = some (.aload 4, 2) := x_ins (j := 18) kk20 ia20 rfl
theorem i20_39 {xs : List Int32} : xtI (xTa xs) 20 39 = some (.iload 5, 2) := x_ins (j := 19) kk20 ia20 rfl
theorem i20_41 {xs : List Int32} : xtI (xTa xs) 20 41 = some (.invokevirtual 51, 3) := x_ins (j := 20) kk20 ia20 rfl
theorem i20_44 {xs : List Int32} : xtI (xTa xs) 20 44 = some (.astore 6, 2) := x_ins (j := 21) kk20 ia20 rfl
theorem i20_46 {xs : List Int32} : xtI (xTa xs) 20 46 = some (.aload 6, 2) := x_ins (j := 22) kk20 ia20 rfl
theorem i20_48 {xs : List Int32} : xtI (xTa xs) 20 48 = some (.ifnull 29, 3) := x_ins (j := 23) kk20 ia20 rfl
theorem i20_51 {xs : List Int32} : xtI (xTa xs) 20 51 = some (.aload 6, 2) := x_ins (j := 24) kk20 ia20 rfl
theorem i20_53 {xs : List Int32} : xtI (xTa xs) 20 53 = some (.getfield 55, 3) := x_ins (j := 25) kk20 ia20 rfl
theorem i20_56 {xs : List Int32} : xtI (xTa xs) 20 56 = some (.bipush 7, 2) := x_ins (j := 26) kk20 ia20 rfl
theorem i20_58 {xs : List Int32} : xtI (xTa xs) 20 58 = some (.if_icmp .ne 19, 3) := x_ins (j := 27) kk20 ia20 rfl
theorem i20_61 {xs : List Int32} : xtI (xTa xs) 20 61 = some (.aload_n 0, 1) := x_ins (j := 28) kk20 ia20 rfl
theorem i20_62 {xs : List Int32} : xtI (xTa xs) 20 62 = some (.aload_n 1, 1) := x_ins (j := 29) kk20 ia20 rfl
theorem i20_63 {xs : List Int32} : xtI (xTa xs) 20 63 = some (.aload_n 1, 1) := x_ins (j := 30) kk20 ia20 rfl
theorem i20_64 {xs : List Int32} : xtI (xTa xs) 20 64 = some (.aload_n 2, 1) := x_ins (j := 31) kk20 ia20 rfl
theorem i20_65 {xs : List Int32} : xtI (xTa xs) 20 65 = some (.invokevirtual 58, 3) := x_ins (j := 32) kk20 ia20 rfl
theorem i20_68 {xs : List Int32} : xtI (xTa xs) 20 68 = some (.iload_n 3, 1) := x_ins (j := 33) kk20 ia20 rfl
theorem i20_69 {xs : List Int32} : xtI (xTa xs) 20 69 = some (.iconst 1, 1) := x_ins (j := 34) kk20 ia20 rfl
theorem i20_70 {xs : List Int32} : xtI (xTa xs) 20 70 = some (.iadd, 1) := x_ins (j := 35) kk20 ia20 rfl
theorem i20_71 {xs : List Int32} : xtI (xTa xs) 20 71 = some (.invokevirtual 64, 3) := x_ins (j := 36) kk20 ia20 rfl
theorem i20_74 {xs : List Int32} : xtI (xTa xs) 20 74 = some (.goto 25, 3) := x_ins (j := 37) kk20 ia20 rfl
theorem i20_77 {xs : List Int32} : xtI (xTa xs) 20 77 = some (.aload 6, 2) := x_ins (j := 38) kk20 ia20 rfl
theorem i20_79 {xs : List Int32} : xtI (xTa xs) 20 79 = some (.ifnull 20, 3) := x_ins (j := 39) kk20 ia20 rfl
theorem i20_82 {xs : List Int32} : xtI (xTa xs) 20 82 = some (.aload 6, 2) := x_ins (j := 40) kk20 ia20 rfl
theorem i20_84 {xs : List Int32} : xtI (xTa xs) 20 84 = some (.getfield 55, 3) := x_ins (j := 41) kk20 ia20 rfl
theorem i20_87 {xs : List Int32} : xtI (xTa xs) 20 87 = some (.invokestatic 68, 3) := x_ins (j := 42) kk20 ia20 rfl
theorem i20_90 {xs : List Int32} : xtI (xTa xs) 20 90 = some (.ifCond .ne 9, 3) := x_ins (j := 43) kk20 ia20 rfl
theorem i20_93 {xs : List Int32} : xtI (xTa xs) 20 93 = some (.aload_n 0, 1) := x_ins (j := 44) kk20 ia20 rfl
theorem i20_94 {xs : List Int32} : xtI (xTa xs) 20 94 = some (.aload 6, 2) := x_ins (j := 45) kk20 ia20 rfl
theorem i20_96 {xs : List Int32} : xtI (xTa xs) 20 96 = some (.invokevirtual 72, 3) := x_ins (j := 46) kk20 ia20 rfl
theorem i20_99 {xs : List Int32} : xtI (xTa xs) 20 99 = some (.iinc 5 1, 3) := x_ins (j := 47) kk20 ia20 rfl
theorem i20_102 {xs : List Int32} : xtI (xTa xs) 20 102 = some (.goto (-75), 3) := x_ins (j := 48) kk20 ia20 rfl
theorem i20_105 {xs : List Int32} : xtI (xTa xs) 20 105 = some (.return_, 1) := x_ins (j := 49) kk20 ia20 rfl
theorem kk21 : xK0.getD 21 [] = k21 := rfl
set_option maxRecDepth 100000 in
theorem ia21 : (k21.all fun e => decide (k21.lookup e.1 = some e.2)) = true := by decide +kernel
theorem i21_0 {xs : List Int32} : xtI (xTa xs) 21 0 = some (.aload_n 1, 1) := x_ins (j := 0) kk21 ia21 rfl
theorem i21_1 {xs : List Int32} : xtI (xTa xs) 21 1 = some (.ifnull 10, 3) := x_ins (j := 1) kk21 ia21 rfl
theorem i21_4 {xs : List Int32} : xtI (xTa xs) 21 4 = some (.aload_n 1, 1) := x_ins (j := 2) kk21 ia21 rfl
theorem i21_5 {xs : List Int32} : xtI (xTa xs) 21 5 = some (.getfield 40, 3) := x_ins (j := 3) kk21 ia21 rfl
theorem i21_8 {xs : List Int32} : xtI (xTa xs) 21 8 = some (.ifnonnull 4, 3) := x_ins (j := 4) kk21 ia21 rfl
theorem i21_11 {xs : List Int32} : xtI (xTa xs) 21 11 = some (.return_, 1) := x_ins (j := 5) kk21 ia21 rfl
theorem i21_12 {xs : List Int32} : xtI (xTa xs) 21 12 = some (.aload_n 1, 1) := x_ins (j := 6) kk21 ia21 rfl
theorem i21_13 {xs : List Int32} : xtI (xTa xs) 21 13 = some (.getfield 40, 3) := x_ins (j := 7) kk21 ia21 rfl
theorem i21_16 {xs : List Int32} : xtI (xTa xs) 21 16 = some (.astore_n 2, 1) := x_ins (j := 8) kk21 ia21 rfl
theorem i21_17 {xs : List Int32} : xtI (xTa xs) 21 17 = some (.iconst 2, 1) := x_ins (j := 9) kk21 ia21 rfl
theorem i21_18 {xs : List Int32} : xtI (xTa xs) 21 18 = some (.istore_n 3, 1) := x_ins (j := 10) kk21 ia21 rfl
theorem i21_19 {xs : List Int32} : xtI (xTa xs) 21 19 = some (.iload_n 3, 1) := x_ins (j := 11) kk21 ia21 rfl
theorem i21_20 {xs : List Int32} : xtI (xTa xs) 21 20 = some (.bipush 6, 2) := x_ins (j := 12) kk21 ia21 rfl
theorem i21_22 {xs : List Int32} : xtI (xTa xs) 21 22 = some (.if_icmp .gt 55, 3) := x_ins (j := 13) kk21 ia21 rfl
theorem i21_25 {xs : List Int32} : xtI (xTa xs) 21 25 = some (.iconst 0, 1) := x_ins (j := 14) kk21 ia21 rfl
theorem i21_26 {xs : List Int32} : xtI (xTa xs) 21 26 = some (.istore 4, 2) := x_ins (j := 15) kk21 ia21 rfl
theorem i21_28 {xs : List Int32} : xtI (xTa xs) 21 28 = some (.iload 4, 2) := x_ins (j := 16) kk21 ia21 rfl
theorem i21_30 {xs : List Int32} : xtI (xTa xs) 21 30 = some (.aload_n 2, 1) := x_ins (j := 17) kk21 ia21 rfl
theorem i21_31 {xs : List Int32} : xtI (xTa xs) 21 31 = some (.getfield 46, 3) := x_ins (j := 18) kk21 ia21 rfl
theorem i21_34 {xs : List Int32} : xtI (xTa xs) 21 34 = some (.if_icmp .ge 37, 3) := x_ins (j := 19) kk21 ia21 rfl
theorem i21_37 {xs : List Int32} : xtI (xTa xs) 21 37 = some (.aload_n 2, 1) := x_ins (j := 20) kk21 ia21 rfl
theorem i21_38 {xs : List Int32} : xtI (xTa xs) 21 38 = some (.iload 4, 2) := x_ins (j := 21) kk21 ia21 rfl
theorem i21_40 {xs : List Int32} : xtI (xTa xs) 21 40 = some (.invokevirtual 51, 3) := x_ins (j := 22) kk21 ia21 rfl
theorem i21_43 {xs : List Int32} : xtI (xTa xs) 21 43 = some (.astore 5, 2) := x_ins (j := 23) kk21 ia21 rfl
theorem i21_45 {xs : List Int32} : xtI (xTa xs) 21 45 = some (.aload 5, 2) := x_ins (j := 24) kk21 ia21 rfl
theorem i21_47 {xs : List Int32} : xtI (xTa xs) 21 47 = some (.ifnull 18, 3) := x_ins (j := 25) kk21 ia21 rfl
theorem i21_50 {xs : List Int32} : xtI (xTa xs) 21 50 = some (.aload 5, 2) := x_ins (j := 26) kk21 ia21 rfl
theorem i21_52 {xs : List Int32} : xtI (xTa xs) 21 52 = some (.getfield 55, 3) := x_ins (j := 27) kk21 ia21 rfl
theorem i21_55 {xs : List Int32} : xtI (xTa xs) 21 55 = some (.iload_n 3, 1) := x_ins (j := 28) kk21 ia21 rfl
theorem i21_56 {xs : List Int32} : xtI (xTa xs) 21 56 = some (.if_icmp .ne 9, 3) := x_ins (j := 29) kk21 ia21 rfl
theorem i21_59 {xs : List Int32} : xtI (xTa xs) 21 59 = some (.aload_n 0, 1) := x_ins (j := 30) kk21 ia21 rfl
theorem i21_60 {xs : List Int32} : xtI (xTa xs) 21 60 = some (.aload 5, 2) := x_ins (j := 31) kk21 ia21 rfl
theorem i21_62 {xs : List Int32} : xtI (xTa xs) 21 62 = some (.invokevirtual 72, 3) := x_ins (j := 32) kk21 ia21 rfl
theorem i21_65 {xs : List Int32} : xtI (xTa xs) 21 65 = some (.iinc 4 1, 3) := x_ins (j := 33) kk21 ia21 rfl
theorem i21_68 {xs : List Int32} : xtI (xTa xs) 21 68 = some (.goto (-40), 3) := x_ins (j := 34) kk21 ia21 rfl
theorem i21_71 {xs : List Int32} : xtI (xTa xs) 21 71 = some (.iinc 3 1, 3) := x_ins (j := 35) kk21 ia21 rfl
theorem i21_74 {xs : List Int32} : xtI (xTa xs) 21 74 = some (.goto (-55), 3) := x_ins (j := 36) kk21 ia21 rfl
theorem i21_77 {xs : List Int32} : xtI (xTa xs) 21 77 = some (.return_, 1) := x_ins (j := 37) kk21 ia21 rfl
theorem kk22 : xK0.getD 22 [] = k22 := rfl
set_option maxRecDepth 100000 in
theorem ia22 : (k22.all fun e => decide (k22.lookup e.1 = some e.2)) = true := by decide +kernel
theorem i22_0 {xs : List Int32} : xtI (xTa xs) 22 0 = some (.aload_n 0, 1) := x_ins (j := 0) kk22 ia22 rfl
theorem i22_1 {xs : List Int32} : xtI (xTa xs) 22 1 = some (.getfield 36, 3) := x_ins (j := 1) kk22 ia22 rfl
theorem i22_4 {xs : List Int32} : xtI (xTa xs) 22 4 = some (.aload_n 0, 1) := x_ins (j := 2) kk22 ia22 rfl
theorem i22_5 {xs : List Int32} : xtI (xTa xs) 22 5 = some (.getfield 11, 3) := x_ins (j := 3) kk22 ia22 rfl
theorem i22_8 {xs : List Int32} : xtI (xTa xs) 22 8 = some (.arraylength, 1) := x_ins (j := 4) kk22 ia22 rfl
theorem i22_9 {xs : List Int32} : xtI (xTa xs) 22 9 = some (.if_icmp .ge 23, 3) := x_ins (j := 5) kk22 ia22 rfl
theorem i22_12 {xs : List Int32} : xtI (xTa xs) 22 12 = some (.aload_n 0, 1) := x_ins (j := 6) kk22 ia22 rfl
theorem i22_13 {xs : List Int32} : xtI (xTa xs) 22 13 = some (.getfield 11, 3) := x_ins (j := 7) kk22 ia22 rfl
theorem i22_16 {xs : List Int32} : xtI (xTa xs) 22 16 = some (.aload_n 0, 1) := x_ins (j := 8) kk22 ia22 rfl
theorem i22_17 {xs : List Int32} : xtI (xTa xs) 22 17 = some (.getfield 36, 3) := x_ins (j := 9) kk22 ia22 rfl
theorem i22_20 {xs : List Int32} : xtI (xTa xs) 22 20 = some (.aload_n 1, 1) := x_ins (j := 10) kk22 ia22 rfl
theorem i22_21 {xs : List Int32} : xtI (xTa xs) 22 21 = some (.aastore, 1) := x_ins (j := 11) kk22 ia22 rfl
theorem i22_22 {xs : List Int32} : xtI (xTa xs) 22 22 = some (.aload_n 0, 1) := x_ins (j := 12) kk22 ia22 rfl
theorem i22_23 {xs : List Int32} : xtI (xTa xs) 22 23 = some (.dup, 1) := x_ins (j := 13) kk22 ia22 rfl
theorem i22_24 {xs : List Int32} : xtI (xTa xs) 22 24 = some (.getfield 36, 3) := x_ins (j := 14) kk22 ia22 rfl
theorem i22_27 {xs : List Int32} : xtI (xTa xs) 22 27 = some (.iconst 1, 1) := x_ins (j := 15) kk22 ia22 rfl
theorem i22_28 {xs : List Int32} : xtI (xTa xs) 22 28 = some (.iadd, 1) := x_ins (j := 16) kk22 ia22 rfl
theorem i22_29 {xs : List Int32} : xtI (xTa xs) 22 29 = some (.putfield 36, 3) := x_ins (j := 17) kk22 ia22 rfl
theorem i22_32 {xs : List Int32} : xtI (xTa xs) 22 32 = some (.return_, 1) := x_ins (j := 18) kk22 ia22 rfl
theorem kk23 : xK0.getD 23 [] = k23 := rfl
set_option maxRecDepth 100000 in
theorem ia23 : (k23.all fun e => decide (k23.lookup e.1 = some e.2)) = true := by decide +kernel
theorem i23_0 {xs : List Int32} : xtI (xTa xs) 23 0 = some (.iconst 0, 1) := x_ins (j := 0) kk23 ia23 rfl
theorem i23_1 {xs : List Int32} : xtI (xTa xs) 23 1 = some (.istore_n 2, 1) := x_ins (j := 1) kk23 ia23 rfl
theorem i23_2 {xs : List Int32} : xtI (xTa xs) 23 2 = some (.iload_n 2, 1) := x_ins (j := 2) kk23 ia23 rfl
theorem i23_3 {xs : List Int32} : xtI (xTa xs) 23 3 = some (.aload_n 0, 1) := x_ins (j := 3) kk23 ia23 rfl
theorem i23_4 {xs : List Int32} : xtI (xTa xs) 23 4 = some (.getfield 36, 3) := x_ins (j := 4) kk23 ia23 rfl
theorem i23_7 {xs : List Int32} : xtI (xTa xs) 23 7 = some (.if_icmp .ge 36, 3) := x_ins (j := 5) kk23 ia23 rfl
theorem i23_10 {xs : List Int32} : xtI (xTa xs) 23 10 = some (.aload_n 0, 1) := x_ins (j := 6) kk23 ia23 rfl
theorem i23_11 {xs : List Int32} : xtI (xTa xs) 23 11 = some (.getfield 11, 3) := x_ins (j := 7) kk23 ia23 rfl
theorem i23_14 {xs : List Int32} : xtI (xTa xs) 23 14 = some (.iload_n 2, 1) := x_ins (j := 8) kk23 ia23 rfl
theorem i23_15 {xs : List Int32} : xtI (xTa xs) 23 15 = some (.aaload, 1) := x_ins (j := 9) kk23 ia23 rfl
theorem i23_16 {xs : List Int32} : xtI (xTa xs) 23 16 = some (.astore_n 3, 1) := x_ins (j := 10) kk23 ia23 rfl
theorem i23_17 {xs : List Int32} : xtI (xTa xs) 23 17 = some (.aload_n 3, 1) := x_ins (j := 11) kk23 ia23 rfl
theorem i23_18 {xs : List Int32} : xtI (xTa xs) 23 18 = some (.ifnull 19, 3) := x_ins (j := 12) kk23 ia23 rfl
theorem i23_21 {xs : List Int32} : xtI (xTa xs) 23 21 = some (.aload_n 3, 1) := x_ins (j := 13) kk23 ia23 rfl
theorem i23_22 {xs : List Int32} : xtI (xTa xs) 23 22 = some (.getfield 76, 3) := x_ins (j := 14) kk23 ia23 rfl
theorem i23_25 {xs : List Int32} : xtI (xTa xs) 23 25 = some (.ifnull 12, 3) := x_ins (j := 15) kk23 ia23 rfl
theorem i23_28 {xs : List Int32} : xtI (xTa xs) 23 28 = some (.aload_n 1, 1) := x_ins (j := 16) kk23 ia23 rfl
theorem i23_29 {xs : List Int32} : xtI (xTa xs) 23 29 = some (.aload_n 3, 1) := x_ins (j := 17) kk23 ia23 rfl
theorem i23_30 {xs : List Int32} : xtI (xTa xs) 23 30 = some (.getfield 76, 3) := x_ins (j := 18) kk23 ia23 rfl
theorem i23_33 {xs : List Int32} : xtI (xTa xs) 23 33 = some (.aload_n 3, 1) := x_ins (j := 19) kk23 ia23 rfl
theorem i23_34 {xs : List Int32} : xtI (xTa xs) 23 34 = some (.invokevirtual 79, 3) := x_ins (j := 20) kk23 ia23 rfl
theorem i23_37 {xs : List Int32} : xtI (xTa xs) 23 37 = some (.iinc 2 1, 3) := x_ins (j := 21) kk23 ia23 rfl
theorem i23_40 {xs : List Int32} : xtI (xTa xs) 23 40 = some (.goto (-38), 3) := x_ins (j := 22) kk23 ia23 rfl
theorem i23_43 {xs : List Int32} : xtI (xTa xs) 23 43 = some (.return_, 1) := x_ins (j := 23) kk23 ia23 rfl
theorem kk24 : xK0.getD 24 [] = k24 := rfl
set_option maxRecDepth 100000 in
theorem ia24 : (k24.all fun e => decide (k24.lookup e.1 = some e.2)) = true := by decide +kernel
theorem i24_0 {xs : List Int32} : xtI (xTa xs) 24 0 = some (.aload_n 0, 1) := x_ins (j := 0) kk24 ia24 rfl
theorem i24_1 {xs : List Int32} : xtI (xTa xs) 24 1 = some (.iload_n 3, 1) := x_ins (j := 1) kk24 ia24 rfl
theorem i24_2 {xs : List Int32} : xtI (xTa xs) 24 2 = some (.putfield 83, 3) := x_ins (j := 2) kk24 ia24 rfl
theorem i24_5 {xs : List Int32} : xtI (xTa xs) 24 5 = some (.aload_n 1, 1) := x_ins (j := 3) kk24 ia24 rfl
theorem i24_6 {xs : List Int32} : xtI (xTa xs) 24 6 = some (.invokevirtual 86, 3) := x_ins (j := 4) kk24 ia24 rfl
theorem i24_9 {xs : List Int32} : xtI (xTa xs) 24 9 = some (.aload_n 1, 1) := x_ins (j := 5) kk24 ia24 rfl
theorem i24_10 {xs : List Int32} : xtI (xTa xs) 24 10 = some (.aload_n 2, 1) := x_ins (j := 6) kk24 ia24 rfl
theorem i24_11 {xs : List Int32} : xtI (xTa xs) 24 11 = some (.invokevirtual 91, 3) := x_ins (j := 7) kk24 ia24 rfl
theorem i24_14 {xs : List Int32} : xtI (xTa xs) 24 14 = some (.aload_n 1, 1) := x_ins (j := 8) kk24 ia24 rfl
theorem i24_15 {xs : List Int32} : xtI (xTa xs) 24 15 = some (.invokevirtual 95, 3) := x_ins (j := 9) kk24 ia24 rfl
theorem i24_18 {xs : List Int32} : xtI (xTa xs) 24 18 = some (.aconst_null, 1) := x_ins (j := 10) kk24 ia24 rfl
theorem i24_19 {xs : List Int32} : xtI (xTa xs) 24 19 = some (.astore 5, 2) := x_ins (j := 11) kk24 ia24 rfl
theorem i24_21 {xs : List Int32} : xtI (xTa xs) 24 21 = some (.iconst 0, 1) := x_ins (j := 12) kk24 ia24 rfl
theorem i24_22 {xs : List Int32} : xtI (xTa xs) 24 22 = some (.istore 6, 2) := x_ins (j := 13) kk24 ia24 rfl
theorem i24_24 {xs : List Int32} : xtI (xTa xs) 24 24 = some (.iload 6, 2) := x_ins (j := 14) kk24 ia24 rfl
theorem i24_26 {xs : List Int32} : xtI (xTa xs) 24 26 = some (.aload_n 0, 1) := x_ins (j := 15) kk24 ia24 rfl
theorem i24_27 {xs : List Int32} : xtI (xTa xs) 24 27 = some (.getfield 36, 3) := x_ins (j := 16) kk24 ia24 rfl
theorem i24_30 {xs : List Int32} : xtI (xTa xs) 24 30 = some (.if_icmp .ge 65, 3) := x_ins (j := 17) kk24 ia24 rfl
theorem i24_33 {xs : List Int32} : xtI (xTa xs) 24 33 = some (.aload_n 1, 1) := x_ins (j := 18) kk24 ia24 rfl
theorem i24_34 {xs : List Int32} : xtI (xTa xs) 24 34 = some (.getfield 98, 3) := x_ins (j := 19) kk24 ia24 rfl
theorem i24_37 {xs : List Int32} : xtI (xTa xs) 24 37 = some (.ifCond .ne 58, 3) := x_ins (j := 20) kk24 ia24 rfl
theorem i24_40 {xs : List Int32} : xtI (xTa xs) 24 40 = some (.aload_n 0, 1) := x_ins (j := 21) kk24 ia24 rfl
theorem i24_41 {xs : List Int32} : xtI (xTa xs) 24 41 = some (.getfield 11, 3) := x_ins (j := 22) kk24 ia24 rfl
theorem i24_44 {xs : List Int32} : xtI (xTa xs) 24 44 = some (.iload 6, 2) := x_ins (j := 23) kk24 ia24 rfl
theorem i24_46 {xs : List Int32} : xtI (xTa xs) 24 46 = some (.aaload, 1) := x_ins (j := 24) kk24 ia24 rfl
theorem i24_47 {xs : List Int32} : xtI (xTa xs) 24 47 = some (.astore 7, 2) := x_ins (j := 25) kk24 ia24 rfl
theorem i24_49 {xs : List Int32} : xtI (xTa xs) 24 49 = some (.aload 7, 2) := x_ins (j := 26) kk24 ia24 rfl
theorem i24_51 {xs : List Int32} : xtI (xTa xs) 24 51 = some (.ifnull 38, 3) := x_ins (j := 27) kk24 ia24 rfl
theorem i24_54 {xs : List Int32} : xtI (xTa xs) 24 54 = some (.aload 7, 2) := x_ins (j := 28) kk24 ia24 rfl
theorem i24_56 {xs : List Int32} : xtI (xTa xs) 24 56 = some (.getfield 76, 3) := x_ins (j := 29) kk24 ia24 rfl
theorem i24_59 {xs : List Int32} : xtI (xTa xs) 24 59 = some (.ifnull 30, 3) := x_ins (j := 30) kk24 ia24 rfl
theorem i24_62 {xs : List Int32} : xtI (xTa xs) 24 62 = some (.aload 5, 2) := x_ins (j := 31) kk24 ia24 rfl
theorem i24_64 {xs : List Int32} : xtI (xTa xs) 24 64 = some (.aload 7, 2) := x_ins (j := 32) kk24 ia24 rfl
theorem i24_66 {xs : List Int32} : xtI (xTa xs) 24 66 = some (.invokestatic 102, 3) := x_ins (j := 33) kk24 ia24 rfl
theorem i24_69 {xs : List Int32} : xtI (xTa xs) 24 69 = some (.ifCond .eq 7, 3) := x_ins (j := 34) kk24 ia24 rfl
theorem i24_72 {xs : List Int32} : xtI (xTa xs) 24 72 = some (.aload_n 1, 1) := x_ins (j := 35) kk24 ia24 rfl
theorem i24_73 {xs : List Int32} : xtI (xTa xs) 24 73 = some (.invokevirtual 95, 3) := x_ins (j := 36) kk24 ia24 rfl
theorem i24_76 {xs : List Int32} : xtI (xTa xs) 24 76 = some (.aload_n 0, 1) := x_ins (j := 37) kk24 ia24 rfl
theorem i24_77 {xs : List Int32} : xtI (xTa xs) 24 77 = some (.aload_n 1, 1) := x_ins (j := 38) kk24 ia24 rfl
theorem i24_78 {xs : List Int32} : xtI (xTa xs) 24 78 = some (.aload 7, 2) := x_ins (j := 39) kk24 ia24 rfl
theorem i24_80 {xs : List Int32} : xtI (xTa xs) 24 80 = some (.iload 4, 2) := x_ins (j := 40) kk24 ia24 rfl
theorem i24_82 {xs : List Int32} : xtI (xTa xs) 24 82 = some (.invokevirtual 106, 3) := x_ins (j := 41) kk24 ia24 rfl
theorem i24_85 {xs : List Int32} : xtI (xTa xs) 24 85 = some (.aload 7, 2) := x_ins (j := 42) kk24 ia24 rfl
theorem i24_87 {xs : List Int32} : xtI (xTa xs) 24 87 = some (.astore 5, 2) := x_ins (j := 43) kk24 ia24 rfl
theorem i24_89 {xs : List Int32} : xtI (xTa xs) 24 89 = some (.iinc 6 1, 3) := x_ins (j := 44) kk24 ia24 rfl
theorem i24_92 {xs : List Int32} : xtI (xTa xs) 24 92 = some (.goto (-68), 3) := x_ins (j := 45) kk24 ia24 rfl
theorem i24_95 {xs : List Int32} : xtI (xTa xs) 24 95 = some (.aload_n 0, 1) := x_ins (j := 46) kk24 ia24 rfl
theorem i24_96 {xs : List Int32} : xtI (xTa xs) 24 96 = some (.aload_n 1, 1) := x_ins (j := 47) kk24 ia24 rfl
theorem i24_97 {xs : List Int32} : xtI (xTa xs) 24 97 = some (.invokevirtual 110, 3) := x_ins (j := 48) kk24 ia24 rfl
theorem i24_100 {xs : List Int32} : xtI (xTa xs) 24 100 = some (.return_, 1) := x_ins (j := 49) kk24 ia24 rfl
theorem kk25 : xK0.getD 25 [] = k25 := rfl
set_option maxRecDepth 100000 in
theorem ia25 : (k25.all fun e => decide (k25.lookup e.1 = some e.2)) = true := by decide +kernel
theorem i25_0 {xs : List Int32} : xtI (xTa xs) 25 0 = some (.aload_n 0, 1) := x_ins (j := 0) kk25 ia25 rfl
theorem i25_1 {xs : List Int32} : xtI (xTa xs) 25 1 = some (.ifnonnull 5, 3) := x_ins (j := 1) kk25 ia25 rfl
theorem i25_4 {xs : List Int32} : xtI (xTa xs) 25 4 = some (.iconst 1, 1) := x_ins (j := 2) kk25 ia25 rfl
theorem i25_5 {xs : List Int32} : xtI (xTa xs) 25 5 = some (.ireturn, 1) := x_ins (j := 3) kk25 ia25 rfl
theorem i25_6 {xs : List Int32} : xtI (xTa xs) 25 6 = some (.aload_n 1, 1) := x_ins (j := 4) kk25 ia25 rfl
theorem i25_7 {xs : List Int32} : xtI (xTa xs) 25 7 = some (.getfield 55, 3) := x_ins (j := 5) kk25 ia25 rfl
theorem i25_10 {xs : List Int32} : xtI (xTa xs) 25 10 = some (.invokestatic 68, 3) := x_ins (j := 6) kk25 ia25 rfl
theorem i25_13 {xs : List Int32} : xtI (xTa xs) 25 13 = some (.ifCond .eq 21, 3) := x_ins (j := 7) kk25 ia25 rfl
theorem i25_16 {xs : List Int32} : xtI (xTa xs) 25 16 = some (.aload_n 0, 1) := x_ins (j := 8) kk25 ia25 rfl
theorem i25_17 {xs : List Int32} : xtI (xTa xs) 25 17 = some (.getfield 55, 3) := x_ins (j := 9) kk25 ia25 rfl
theorem i25_20 {xs : List Int32} : xtI (xTa xs) 25 20 = some (.invokestatic 68, 3) := x_ins (j := 10) kk25 ia25 rfl
theorem i25_23 {xs : List Int32} : xtI (xTa xs) 25 23 = some (.ifCond .ne 7, 3) := x_ins (j := 11) kk25 ia25 rfl
theorem i25_26 {xs : List Int32} : xtI (xTa xs) 25 26 = some (.iconst 1, 1) := x_ins (j := 12) kk25 ia25 rfl
theorem i25_27 {xs : List Int32} : xtI (xTa xs) 25 27 = some (.goto 19, 3) := x_ins (j := 13) kk25 ia25 rfl
theorem i25_30 {xs : List Int32} : xtI (xTa xs) 25 30 = some (.iconst 0, 1) := x_ins (j := 14) kk25 ia25 rfl
theorem i25_31 {xs : List Int32} : xtI (xTa xs) 25 31 = some (.goto 15, 3) := x_ins (j := 15) kk25 ia25 rfl
theorem i25_34 {xs : List Int32} : xtI (xTa xs) 25 34 = some (.aload_n 1, 1) := x_ins (j := 16) kk25 ia25 rfl
theorem i25_35 {xs : List Int32} : xtI (xTa xs) 25 35 = some (.getfield 114, 3) := x_ins (j := 17) kk25 ia25 rfl
theorem i25_38 {xs : List Int32} : xtI (xTa xs) 25 38 = some (.ifCond .ne 7, 3) := x_ins (j := 18) kk25 ia25 rfl
theorem i25_41 {xs : List Int32} : xtI (xTa xs) 25 41 = some (.iconst 1, 1) := x_ins (j := 19) kk25 ia25 rfl
theorem i25_42 {xs : List Int32} : xtI (xTa xs) 25 42 = some (.goto 4, 3) := x_ins (j := 20) kk25 ia25 rfl
theorem i25_45 {xs : List Int32} : xtI (xTa xs) 25 45 = some (.iconst 0, 1) := x_ins (j := 21) kk25 ia25 rfl
theorem i25_46 {xs : List Int32} : xtI (xTa xs) 25 46 = some (.ireturn, 1) := x_ins (j := 22) kk25 ia25 rfl
theorem kk26 : xK0.getD 26 [] = k26 := rfl
set_option maxRecDepth 100000 in
theorem ia26 : (k26.all fun e => decide (k26.lookup e.1 = some e.2)) = true := by decide +kernel
theorem i26_0 {xs : List Int32} : xtI (xTa xs) 26 0 = some (.aload_n 1, 1) := x_ins (j := 0) kk26 ia26 rfl
theorem i26_1 {xs : List Int32} : xtI (xTa xs) 26 1 = some (.getfield 117, 3) := x_ins (j := 1) kk26 ia26 rfl
theorem i26_4 {xs : List Int32} : xtI (xTa xs) 26 4 = some (.ifCond .le 7, 3) := x_ins (j := 2) kk26 ia26 rfl
theorem i26_7 {xs : List Int32} : xtI (xTa xs) 26 7 = some (.aload_n 1, 1) := x_ins (j := 3) kk26 ia26 rfl
theorem i26_8 {xs : List Int32} : xtI (xTa xs) 26 8 = some (.invokevirtual 95, 3) := x_ins (j := 4) kk26 ia26 rfl
theorem i26_11 {xs : List Int32} : xtI (xTa xs) 26 11 = some (.iconst 1, 1) := x_ins (j := 5) kk26 ia26 rfl
theorem i26_12 {xs : List Int32} : xtI (xTa xs) 26 12 = some (.istore_n 2, 1) := x_ins (j := 6) kk26 ia26 rfl
theorem i26_13 {xs : List Int32} : xtI (xTa xs) 26 13 = some (.iload_n 2, 1) := x_ins (j := 7) kk26 ia26 rfl
theorem i26_14 {xs : List Int32} : xtI (xTa xs) 26 14 = some (.aload_n 1, 1) := x_ins (j := 8) kk26 ia26 rfl
theorem i26_15 {xs : List Int32} : xtI (xTa xs) 26 15 = some (.getfield 117, 3) := x_ins (j := 9) kk26 ia26 rfl
theorem i26_18 {xs : List Int32} : xtI (xTa xs) 26 18 = some (.if_icmp .gt 66, 3) := x_ins (j := 10) kk26 ia26 rfl
theorem i26_21 {xs : List Int32} : xtI (xTa xs) 26 21 = some (.aload_n 1, 1) := x_ins (j := 11) kk26 ia26 rfl
theorem i26_22 {xs : List Int32} : xtI (xTa xs) 26 22 = some (.iload_n 2, 1) := x_ins (j := 12) kk26 ia26 rfl
theorem i26_23 {xs : List Int32} : xtI (xTa xs) 26 23 = some (.invokevirtual 120, 3) := x_ins (j := 13) kk26 ia26 rfl
theorem i26_26 {xs : List Int32} : xtI (xTa xs) 26 26 = some (.astore_n 3, 1) := x_ins (j := 14) kk26 ia26 rfl
theorem i26_27 {xs : List Int32} : xtI (xTa xs) 26 27 = some (.aload_n 3, 1) := x_ins (j := 15) kk26 ia26 rfl
theorem i26_28 {xs : List Int32} : xtI (xTa xs) 26 28 = some (.ifnull 50, 3) := x_ins (j := 16) kk26 ia26 rfl
theorem i26_31 {xs : List Int32} : xtI (xTa xs) 26 31 = some (.aload_n 0, 1) := x_ins (j := 17) kk26 ia26 rfl
theorem i26_32 {xs : List Int32} : xtI (xTa xs) 26 32 = some (.getfield 22, 3) := x_ins (j := 18) kk26 ia26 rfl
theorem i26_35 {xs : List Int32} : xtI (xTa xs) 26 35 = some (.iconst 0, 1) := x_ins (j := 19) kk26 ia26 rfl
theorem i26_36 {xs : List Int32} : xtI (xTa xs) 26 36 = some (.invokevirtual 124, 3) := x_ins (j := 20) kk26 ia26 rfl
theorem i26_39 {xs : List Int32} : xtI (xTa xs) 26 39 = some (.aload_n 0, 1) := x_ins (j := 21) kk26 ia26 rfl
theorem i26_40 {xs : List Int32} : xtI (xTa xs) 26 40 = some (.getfield 22, 3) := x_ins (j := 22) kk26 ia26 rfl
theorem i26_43 {xs : List Int32} : xtI (xTa xs) 26 43 = some (.iload_n 2, 1) := x_ins (j := 23) kk26 ia26 rfl
theorem i26_44 {xs : List Int32} : xtI (xTa xs) 26 44 = some (.invokestatic 127, 3) := x_ins (j := 24) kk26 ia26 rfl
theorem i26_47 {xs : List Int32} : xtI (xTa xs) 26 47 = some (.aload_n 1, 1) := x_ins (j := 25) kk26 ia26 rfl
theorem i26_48 {xs : List Int32} : xtI (xTa xs) 26 48 = some (.aload_n 0, 1) := x_ins (j := 26) kk26 ia26 rfl
theorem i26_49 {xs : List Int32} : xtI (xTa xs) 26 49 = some (.getfield 22, 3) := x_ins (j := 27) kk26 ia26 rfl
theorem i26_52 {xs : List Int32} : xtI (xTa xs) 26 52 = some (.iconst 0, 1) := x_ins (j := 28) kk26 ia26 rfl
theorem i26_53 {xs : List Int32} : xtI (xTa xs) 26 53 = some (.aload_n 0, 1) := x_ins (j := 29) kk26 ia26 rfl
theorem i26_54 {xs : List Int32} : xtI (xTa xs) 26 54 = some (.getfield 22, 3) := x_ins (j := 30) kk26 ia26 rfl
theorem i26_57 {xs : List Int32} : xtI (xTa xs) 26 57 = some (.getfield 131, 3) := x_ins (j := 31) kk26 ia26 rfl
theorem i26_60 {xs : List Int32} : xtI (xTa xs) 26 60 = some (.invokevirtual 134, 3) := x_ins (j := 32) kk26 ia26 rfl
theorem i26_63 {xs : List Int32} : xtI (xTa xs) 26 63 = some (.aload_n 1, 1) := x_ins (j := 33) kk26 ia26 rfl
theorem i26_64 {xs : List Int32} : xtI (xTa xs) 26 64 = some (.bipush 32, 2) := x_ins (j := 34) kk26 ia26 rfl
theorem i26_66 {xs : List Int32} : xtI (xTa xs) 26 66 = some (.invokevirtual 138, 3) := x_ins (j := 35) kk26 ia26 rfl
theorem i26_69 {xs : List Int32} : xtI (xTa xs) 26 69 = some (.aload_n 1, 1) := x_ins (j := 36) kk26 ia26 rfl
theorem i26_70 {xs : List Int32} : xtI (xTa xs) 26 70 = some (.aload_n 3, 1) := x_ins (j := 37) kk26 ia26 rfl
theorem i26_71 {xs : List Int32} : xtI (xTa xs) 26 71 = some (.invokevirtual 91, 3) := x_ins (j := 38) kk26 ia26 rfl
theorem i26_74 {xs : List Int32} : xtI (xTa xs) 26 74 = some (.aload_n 1, 1) := x_ins (j := 39) kk26 ia26 rfl
theorem i26_75 {xs : List Int32} : xtI (xTa xs) 26 75 = some (.invokevirtual 95, 3) := x_ins (j := 40) kk26 ia26 rfl
theorem i26_78 {xs : List Int32} : xtI (xTa xs) 26 78 = some (.iinc 2 1, 3) := x_ins (j := 41) kk26 ia26 rfl
theorem i26_81 {xs : List Int32} : xtI (xTa xs) 26 81 = some (.goto (-68), 3) := x_ins (j := 42) kk26 ia26 rfl
theorem i26_84 {xs : List Int32} : xtI (xTa xs) 26 84 = some (.return_, 1) := x_ins (j := 43) kk26 ia26 rfl
theorem kk27 : xK0.getD 27 [] = k27 := rfl
set_option maxRecDepth 100000 in
theorem ia27 : (k27.all fun e => decide (k27.lookup e.1 = some e.2)) = true := by decide +kernel
theorem i27_0 {xs : List Int32} : xtI (xTa xs) 27 0 = some (.aload_n 0, 1) := x_ins (j := 0) kk27 ia27 rfl
theorem i27_1 {xs : List Int32} : xtI (xTa xs) 27 1 = some (.bipush 91, 2) := x_ins (j := 1) kk27 ia27 rfl
theorem i27_3 {xs : List Int32} : xtI (xTa xs) 27 3 = some (.invokevirtual 141, 3) := x_ins (j := 2) kk27 ia27 rfl
theorem i27_6 {xs : List Int32} : xtI (xTa xs) 27 6 = some (.pop, 1) := x_ins (j := 3) kk27 ia27 rfl
theorem i27_7 {xs : List Int32} : xtI (xTa xs) 27 7 = some (.iload_n 1, 1) := x_ins (j := 4) kk27 ia27 rfl
theorem i27_8 {xs : List Int32} : xtI (xTa xs) 27 8 = some (.bipush 10, 2) := x_ins (j := 5) kk27 ia27 rfl
theorem i27_10 {xs : List Int32} : xtI (xTa xs) 27 10 = some (.if_icmp .lt 15, 3) := x_ins (j := 6) kk27 ia27 rfl
theorem i27_13 {xs : List Int32} : xtI (xTa xs) 27 13 = some (.aload_n 0, 1) := x_ins (j := 7) kk27 ia27 rfl
theorem i27_14 {xs : List Int32} : xtI (xTa xs) 27 14 = some (.bipush 48, 2) := x_ins (j := 8) kk27 ia27 rfl
theorem i27_16 {xs : List Int32} : xtI (xTa xs) 27 16 = some (.iload_n 1, 1) := x_ins (j := 9) kk27 ia27 rfl
theorem i27_17 {xs : List Int32} : xtI (xTa xs) 27 17 = some (.bipush 10, 2) := x_ins (j := 10) kk27 ia27 rfl
theorem i27_19 {xs : List Int32} : xtI (xTa xs) 27 19 = some (.idiv, 1) := x_ins (j := 11) kk27 ia27 rfl
theorem i27_20 {xs : List Int32} : xtI (xTa xs) 27 20 = some (.iadd, 1) := x_ins (j := 12) kk27 ia27 rfl
theorem i27_21 {xs : List Int32} : xtI (xTa xs) 27 21 = some (.invokevirtual 141, 3) := x_ins (j := 13) kk27 ia27 rfl
theorem i27_24 {xs : List Int32} : xtI (xTa xs) 27 24 = some (.pop, 1) := x_ins (j := 14) kk27 ia27 rfl
theorem i27_25 {xs : List Int32} : xtI (xTa xs) 27 25 = some (.aload_n 0, 1) := x_ins (j := 15) kk27 ia27 rfl
theorem i27_26 {xs : List Int32} : xtI (xTa xs) 27 26 = some (.iload_n 1, 1) := x_ins (j := 16) kk27 ia27 rfl
theorem i27_27 {xs : List Int32} : xtI (xTa xs) 27 27 = some (.ifCond .le 13, 3) := x_ins (j := 17) kk27 ia27 rfl
theorem i27_30 {xs : List Int32} : xtI (xTa xs) 27 30 = some (.bipush 48, 2) := x_ins (j := 18) kk27 ia27 rfl
theorem i27_32 {xs : List Int32} : xtI (xTa xs) 27 32 = some (.iload_n 1, 1) := x_ins (j := 19) kk27 ia27 rfl
theorem i27_33 {xs : List Int32} : xtI (xTa xs) 27 33 = some (.bipush 10, 2) := x_ins (j := 20) kk27 ia27 rfl
theorem i27_35 {xs : List Int32} : xtI (xTa xs) 27 35 = some (.irem, 1) := x_ins (j := 21) kk27 ia27 rfl
theorem i27_36 {xs : List Int32} : xtI (xTa xs) 27 36 = some (.iadd, 1) := x_ins (j := 22) kk27 ia27 rfl
theorem i27_37 {xs : List Int32} : xtI (xTa xs) 27 37 = some (.goto 5, 3) := x_ins (j := 23) kk27 ia27 rfl
theorem i27_40 {xs : List Int32} : xtI (xTa xs) 27 40 = some (.bipush 63, 2) := x_ins (j := 24) kk27 ia27 rfl
theorem i27_42 {xs : List Int32} : xtI (xTa xs) 27 42 = some (.invokevirtual 141, 3) := x_ins (j := 25) kk27 ia27 rfl
theorem i27_45 {xs : List Int32} : xtI (xTa xs) 27 45 = some (.pop, 1) := x_ins (j := 26) kk27 ia27 rfl
theorem i27_46 {xs : List Int32} : xtI (xTa xs) 27 46 = some (.aload_n 0, 1) := x_ins (j := 27) kk27 ia27 rfl
theorem i27_47 {xs : List Int32} : xtI (xTa xs) 27 47 = some (.bipush 93, 2) := x_ins (j := 28) kk27 ia27 rfl
theorem i27_49 {xs : List Int32} : xtI (xTa xs) 27 49 = some (.invokevirtual 141, 3) := x_ins (j := 29) kk27 ia27 rfl
theorem i27_52 {xs : List Int32} : xtI (xTa xs) 27 52 = some (.pop, 1) := x_ins (j := 30) kk27 ia27 rfl
theorem i27_53 {xs : List Int32} : xtI (xTa xs) 27 53 = some (.return_, 1) := x_ins (j := 31) kk27 ia27 rfl
theorem kk28 : xK0.getD 28 [] = k28 := rfl
set_option maxRecDepth 100000 in
theorem ia28 : (k28.all fun e => decide (k28.lookup e.1 = some e.2)) = true := by decide +kernel
theorem i28_0 {xs : List Int32} : xtI (xTa xs) 28 0 = some (.aload_n 0, 1) := x_ins (j := 0) kk28 ia28 rfl
theorem i28_1 {xs : List Int32} : xtI (xTa xs) 28 1 = some (.aload_n 1, 1) := x_ins (j := 1) kk28 ia28 rfl
theorem i28_2 {xs : List Int32} : xtI (xTa xs) 28 2 = some (.aload_n 2, 1) := x_ins (j := 2) kk28 ia28 rfl
theorem i28_3 {xs : List Int32} : xtI (xTa xs) 28 3 = some (.invokevirtual 144, 3) := x_ins (j := 3) kk28 ia28 rfl
theorem i28_6 {xs : List Int32} : xtI (xTa xs) 28 6 = some (.aload_n 2, 1) := x_ins (j := 4) kk28 ia28 rfl
theorem i28_7 {xs : List Int32} : xtI (xTa xs) 28 7 = some (.getfield 55, 3) := x_ins (j := 5) kk28 ia28 rfl
theorem i28_10 {xs : List Int32} : xtI (xTa xs) 28 10 = some (.iconst 1, 1) := x_ins (j := 6) kk28 ia28 rfl
theorem i28_11 {xs : List Int32} : xtI (xTa xs) 28 11 = some (.if_icmp .ne 7, 3) := x_ins (j := 7) kk28 ia28 rfl
theorem i28_14 {xs : List Int32} : xtI (xTa xs) 28 14 = some (.iconst 1, 1) := x_ins (j := 8) kk28 ia28 rfl
theorem i28_15 {xs : List Int32} : xtI (xTa xs) 28 15 = some (.goto 4, 3) := x_ins (j := 9) kk28 ia28 rfl
theorem i28_18 {xs : List Int32} : xtI (xTa xs) 28 18 = some (.iconst 0, 1) := x_ins (j := 10) kk28 ia28 rfl
theorem i28_19 {xs : List Int32} : xtI (xTa xs) 28 19 = some (.istore 4, 2) := x_ins (j := 11) kk28 ia28 rfl
theorem i28_21 {xs : List Int32} : xtI (xTa xs) 28 21 = some (.iconst 2, 1) := x_ins (j := 12) kk28 ia28 rfl
theorem i28_22 {xs : List Int32} : xtI (xTa xs) 28 22 = some (.aload_n 2, 1) := x_ins (j := 13) kk28 ia28 rfl
theorem i28_23 {xs : List Int32} : xtI (xTa xs) 28 23 = some (.getfield 148, 3) := x_ins (j := 14) kk28 ia28 rfl
theorem i28_26 {xs : List Int32} : xtI (xTa xs) 28 26 = some (.imul, 1) := x_ins (j := 15) kk28 ia28 rfl
theorem i28_27 {xs : List Int32} : xtI (xTa xs) 28 27 = some (.istore 5, 2) := x_ins (j := 16) kk28 ia28 rfl
theorem i28_29 {xs : List Int32} : xtI (xTa xs) 28 29 = some (.aload_n 0, 1) := x_ins (j := 17) kk28 ia28 rfl
theorem i28_30 {xs : List Int32} : xtI (xTa xs) 28 30 = some (.iload 4, 2) := x_ins (j := 18) kk28 ia28 rfl
theorem i28_32 {xs : List Int32} : xtI (xTa xs) 28 32 = some (.ifCond .eq 10, 3) := x_ins (j := 19) kk28 ia28 rfl
theorem i28_35 {xs : List Int32} : xtI (xTa xs) 28 35 = some (.iload 5, 2) := x_ins (j := 20) kk28 ia28 rfl
theorem i28_37 {xs : List Int32} : xtI (xTa xs) 28 37 = some (.iconst 2, 1) := x_ins (j := 21) kk28 ia28 rfl
theorem i28_38 {xs : List Int32} : xtI (xTa xs) 28 38 = some (.iadd, 1) := x_ins (j := 22) kk28 ia28 rfl
theorem i28_39 {xs : List Int32} : xtI (xTa xs) 28 39 = some (.goto 4, 3) := x_ins (j := 23) kk28 ia28 rfl
theorem i28_42 {xs : List Int32} : xtI (xTa xs) 28 42 = some (.iconst 0, 1) := x_ins (j := 24) kk28 ia28 rfl
theorem i28_43 {xs : List Int32} : xtI (xTa xs) 28 43 = some (.putfield 151, 3) := x_ins (j := 25) kk28 ia28 rfl
theorem i28_46 {xs : List Int32} : xtI (xTa xs) 28 46 = some (.aload_n 0, 1) := x_ins (j := 26) kk28 ia28 rfl
theorem i28_47 {xs : List Int32} : xtI (xTa xs) 28 47 = some (.aload_n 2, 1) := x_ins (j := 27) kk28 ia28 rfl
theorem i28_48 {xs : List Int32} : xtI (xTa xs) 28 48 = some (.getfield 55, 3) := x_ins (j := 28) kk28 ia28 rfl
theorem i28_51 {xs : List Int32} : xtI (xTa xs) 28 51 = some (.invokestatic 68, 3) := x_ins (j := 29) kk28 ia28 rfl
theorem i28_54 {xs : List Int32} : xtI (xTa xs) 28 54 = some (.ifCond .eq 7, 3) := x_ins (j := 30) kk28 ia28 rfl
theorem i28_57 {xs : List Int32} : xtI (xTa xs) 28 57 = some (.iconst 4, 1) := x_ins (j := 31) kk28 ia28 rfl
theorem i28_58 {xs : List Int32} : xtI (xTa xs) 28 58 = some (.goto 7, 3) := x_ins (j := 32) kk28 ia28 rfl
theorem i28_61 {xs : List Int32} : xtI (xTa xs) 28 61 = some (.aload_n 0, 1) := x_ins (j := 33) kk28 ia28 rfl
theorem i28_62 {xs : List Int32} : xtI (xTa xs) 28 62 = some (.getfield 151, 3) := x_ins (j := 34) kk28 ia28 rfl
theorem i28_65 {xs : List Int32} : xtI (xTa xs) 28 65 = some (.putfield 154, 3) := x_ins (j := 35) kk28 ia28 rfl
theorem i28_68 {xs : List Int32} : xtI (xTa xs) 28 68 = some (.iload_n 3, 1) := x_ins (j := 36) kk28 ia28 rfl
theorem i28_69 {xs : List Int32} : xtI (xTa xs) 28 69 = some (.iconst 1, 1) := x_ins (j := 37) kk28 ia28 rfl
theorem i28_70 {xs : List Int32} : xtI (xTa xs) 28 70 = some (.if_icmp .ne 10, 3) := x_ins (j := 38) kk28 ia28 rfl
theorem i28_73 {xs : List Int32} : xtI (xTa xs) 28 73 = some (.aload_n 0, 1) := x_ins (j := 39) kk28 ia28 rfl
theorem i28_74 {xs : List Int32} : xtI (xTa xs) 28 74 = some (.invokevirtual 157, 3) := x_ins (j := 40) kk28 ia28 rfl
theorem i28_77 {xs : List Int32} : xtI (xTa xs) 28 77 = some (.goto 7, 3) := x_ins (j := 41) kk28 ia28 rfl
theorem i28_80 {xs : List Int32} : xtI (xTa xs) 28 80 = some (.aload_n 0, 1) := x_ins (j := 42) kk28 ia28 rfl
theorem i28_81 {xs : List Int32} : xtI (xTa xs) 28 81 = some (.invokevirtual 160, 3) := x_ins (j := 43) kk28 ia28 rfl
theorem i28_84 {xs : List Int32} : xtI (xTa xs) 28 84 = some (.iload 4, 2) := x_ins (j := 44) kk28 ia28 rfl
theorem i28_86 {xs : List Int32} : xtI (xTa xs) 28 86 = some (.ifCond .eq 15, 3) := x_ins (j := 45) kk28 ia28 rfl
theorem i28_89 {xs : List Int32} : xtI (xTa xs) 28 89 = some (.aload_n 1, 1) := x_ins (j := 46) kk28 ia28 rfl
theorem i28_90 {xs : List Int32} : xtI (xTa xs) 28 90 = some (.iload 5, 2) := x_ins (j := 47) kk28 ia28 rfl
theorem i28_92 {xs : List Int32} : xtI (xTa xs) 28 92 = some (.invokevirtual 163, 3) := x_ins (j := 48) kk28 ia28 rfl
theorem i28_95 {xs : List Int32} : xtI (xTa xs) 28 95 = some (.aload_n 1, 1) := x_ins (j := 49) kk28 ia28 rfl
theorem i28_96 {xs : List Int32} : xtI (xTa xs) 28 96 = some (.bipush 45, 2) := x_ins (j := 50) kk28 ia28 rfl
theorem i28_98 {xs : List Int32} : xtI (xTa xs) 28 98 = some (.invokevirtual 138, 3) := x_ins (j := 51) kk28 ia28 rfl
theorem i28_101 {xs : List Int32} : xtI (xTa xs) 28 101 = some (.iload 4, 2) := x_ins (j := 52) kk28 ia28 rfl
theorem i28_103 {xs : List Int32} : xtI (xTa xs) 28 103 = some (.ifCond .eq 16, 3) := x_ins (j := 53) kk28 ia28 rfl
theorem i28_106 {xs : List Int32} : xtI (xTa xs) 28 106 = some (.aload_n 0, 1) := x_ins (j := 54) kk28 ia28 rfl
theorem i28_107 {xs : List Int32} : xtI (xTa xs) 28 107 = some (.getfield 166, 3) := x_ins (j := 55) kk28 ia28 rfl
theorem i28_110 {xs : List Int32} : xtI (xTa xs) 28 110 = some (.ifCond .le 9, 3) := x_ins (j := 56) kk28 ia28 rfl
theorem i28_113 {xs : List Int32} : xtI (xTa xs) 28 113 = some (.aload_n 1, 1) := x_ins (j := 57) kk28 ia28 rfl
theorem i28_114 {xs : List Int32} : xtI (xTa xs) 28 114 = some (.bipush 32, 2) := x_ins (j := 58) kk28 ia28 rfl
theorem i28_116 {xs : List Int32} : xtI (xTa xs) 28 116 = some (.invokevirtual 138, 3) := x_ins (j := 59) kk28 ia28 rfl
theorem i28_119 {xs : List Int32} : xtI (xTa xs) 28 119 = some (.aload_n 0, 1) := x_ins (j := 60) kk28 ia28 rfl
theorem i28_120 {xs : List Int32} : xtI (xTa xs) 28 120 = some (.aload_n 1, 1) := x_ins (j := 61) kk28 ia28 rfl
theorem i28_121 {xs : List Int32} : xtI (xTa xs) 28 121 = some (.invokevirtual 169, 3) := x_ins (j := 62) kk28 ia28 rfl
theorem i28_124 {xs : List Int32} : xtI (xTa xs) 28 124 = some (.return_, 1) := x_ins (j := 63) kk28 ia28 rfl
theorem kk29 : xK0.getD 29 [] = k29 := rfl
set_option maxRecDepth 100000 in
theorem ia29 : (k29.all fun e => decide (k29.lookup e.1 = some e.2)) = true := by decide +kernel
theorem i29_0 {xs : List Int32} : xtI (xTa xs) 29 0 = some (.aload_n 0, 1) := x_ins (j := 0) kk29 ia29 rfl
theorem i29_1 {xs : List Int32} : xtI (xTa xs) 29 1 = some (.getfield 22, 3) := x_ins (j := 1) kk29 ia29 rfl
theorem i29_4 {xs : List Int32} : xtI (xTa xs) 29 4 = some (.iconst 0, 1) := x_ins (j := 2) kk29 ia29 rfl
theorem i29_5 {xs : List Int32} : xtI (xTa xs) 29 5 = some (.invokevirtual 124, 3) := x_ins (j := 3) kk29 ia29 rfl
theorem i29_8 {xs : List Int32} : xtI (xTa xs) 29 8 = some (.aload_n 0, 1) := x_ins (j := 4) kk29 ia29 rfl
theorem i29_9 {xs : List Int32} : xtI (xTa xs) 29 9 = some (.iconst 0, 1) := x_ins (j := 5) kk29 ia29 rfl
theorem i29_10 {xs : List Int32} : xtI (xTa xs) 29 10 = some (.putfield 166, 3) := x_ins (j := 6) kk29 ia29 rfl
theorem i29_13 {xs : List Int32} : xtI (xTa xs) 29 13 = some (.aload_n 2, 1) := x_ins (j := 7) kk29 ia29 rfl
theorem i29_14 {xs : List Int32} : xtI (xTa xs) 29 14 = some (.getfield 76, 3) := x_ins (j := 8) kk29 ia29 rfl
theorem i29_17 {xs : List Int32} : xtI (xTa xs) 29 17 = some (.astore_n 3, 1) := x_ins (j := 9) kk29 ia29 rfl
theorem i29_18 {xs : List Int32} : xtI (xTa xs) 29 18 = some (.aload_n 3, 1) := x_ins (j := 10) kk29 ia29 rfl
theorem i29_19 {xs : List Int32} : xtI (xTa xs) 29 19 = some (.ifnonnull 4, 3) := x_ins (j := 11) kk29 ia29 rfl
theorem i29_22 {xs : List Int32} : xtI (xTa xs) 29 22 = some (.return_, 1) := x_ins (j := 12) kk29 ia29 rfl
theorem i29_23 {xs : List Int32} : xtI (xTa xs) 29 23 = some (.aload_n 2, 1) := x_ins (j := 13) kk29 ia29 rfl
theorem i29_24 {xs : List Int32} : xtI (xTa xs) 29 24 = some (.getfield 55, 3) := x_ins (j := 14) kk29 ia29 rfl
theorem i29_27 {xs : List Int32} : xtI (xTa xs) 29 27 = some (.invokestatic 68, 3) := x_ins (j := 15) kk29 ia29 rfl
theorem i29_30 {xs : List Int32} : xtI (xTa xs) 29 30 = some (.ifCond .eq 13, 3) := x_ins (j := 16) kk29 ia29 rfl
theorem i29_33 {xs : List Int32} : xtI (xTa xs) 29 33 = some (.aload_n 0, 1) := x_ins (j := 17) kk29 ia29 rfl
theorem i29_34 {xs : List Int32} : xtI (xTa xs) 29 34 = some (.aload_n 1, 1) := x_ins (j := 18) kk29 ia29 rfl
theorem i29_35 {xs : List Int32} : xtI (xTa xs) 29 35 = some (.aload_n 2, 1) := x_ins (j := 19) kk29 ia29 rfl
theorem i29_36 {xs : List Int32} : xtI (xTa xs) 29 36 = some (.aload_n 3, 1) := x_ins (j := 20) kk29 ia29 rfl
theorem i29_37 {xs : List Int32} : xtI (xTa xs) 29 37 = some (.getfield 172, 3) := x_ins (j := 21) kk29 ia29 rfl
theorem i29_40 {xs : List Int32} : xtI (xTa xs) 29 40 = some (.invokevirtual 175, 3) := x_ins (j := 22) kk29 ia29 rfl
theorem i29_43 {xs : List Int32} : xtI (xTa xs) 29 43 = some (.iconst 0, 1) := x_ins (j := 23) kk29 ia29 rfl
theorem i29_44 {xs : List Int32} : xtI (xTa xs) 29 44 = some (.istore 4, 2) := x_ins (j := 24) kk29 ia29 rfl
theorem i29_46 {xs : List Int32} : xtI (xTa xs) 29 46 = some (.iload 4, 2) := x_ins (j := 25) kk29 ia29 rfl
theorem i29_48 {xs : List Int32} : xtI (xTa xs) 29 48 = some (.aload_n 2, 1) := x_ins (j := 26) kk29 ia29 rfl
theorem i29_49 {xs : List Int32} : xtI (xTa xs) 29 49 = some (.getfield 179, 3) := x_ins (j := 27) kk29 ia29 rfl
theorem i29_52 {xs : List Int32} : xtI (xTa xs) 29 52 = some (.if_icmp .ge 90, 3) := x_ins (j := 28) kk29 ia29 rfl
theorem i29_55 {xs : List Int32} : xtI (xTa xs) 29 55 = some (.aload_n 3, 1) := x_ins (j := 29) kk29 ia29 rfl
theorem i29_56 {xs : List Int32} : xtI (xTa xs) 29 56 = some (.aload_n 2, 1) := x_ins (j := 30) kk29 ia29 rfl
theorem i29_57 {xs : List Int32} : xtI (xTa xs) 29 57 = some (.getfield 182, 3) := x_ins (j := 31) kk29 ia29 rfl
theorem i29_60 {xs : List Int32} : xtI (xTa xs) 29 60 = some (.iload 4, 2) := x_ins (j := 32) kk29 ia29 rfl
theorem i29_62 {xs : List Int32} : xtI (xTa xs) 29 62 = some (.iadd, 1) := x_ins (j := 33) kk29 ia29 rfl
theorem i29_63 {xs : List Int32} : xtI (xTa xs) 29 63 = some (.invokevirtual 185, 3) := x_ins (j := 34) kk29 ia29 rfl
theorem i29_66 {xs : List Int32} : xtI (xTa xs) 29 66 = some (.astore 5, 2) := x_ins (j := 35) kk29 ia29 rfl
theorem i29_68 {xs : List Int32} : xtI (xTa xs) 29 68 = some (.aload 5, 2) := x_ins (j := 36) kk29 ia29 rfl
theorem i29_70 {xs : List Int32} : xtI (xTa xs) 29 70 = some (.ifnonnull 4, 3) := x_ins (j := 37) kk29 ia29 rfl
theorem i29_73 {xs : List Int32} : xtI (xTa xs) 29 73 = some (.return_, 1) := x_ins (j := 38) kk29 ia29 rfl
theorem i29_74 {xs : List Int32} : xtI (xTa xs) 29 74 = some (.aload 5, 2) := x_ins (j := 39) kk29 ia29 rfl
theorem i29_76 {xs : List Int32} : xtI (xTa xs) 29 76 = some (.getfield 189, 3) := x_ins (j := 40) kk29 ia29 rfl
theorem i29_79 {xs : List Int32} : xtI (xTa xs) 29 79 = some (.ifCond .ne 7, 3) := x_ins (j := 41) kk29 ia29 rfl
theorem i29_82 {xs : List Int32} : xtI (xTa xs) 29 82 = some (.aload_n 0, 1) := x_ins (j := 42) kk29 ia29 rfl
theorem i29_83 {xs : List Int32} : xtI (xTa xs) 29 83 = some (.invokevirtual 194, 3) := x_ins (j := 43) kk29 ia29 rfl
theorem i29_86 {xs : List Int32} : xtI (xTa xs) 29 86 = some (.aload_n 0, 1) := x_ins (j := 44) kk29 ia29 rfl
theorem i29_87 {xs : List Int32} : xtI (xTa xs) 29 87 = some (.getfield 22, 3) := x_ins (j := 45) kk29 ia29 rfl
theorem i29_90 {xs : List Int32} : xtI (xTa xs) 29 90 = some (.aload_n 3, 1) := x_ins (j := 46) kk29 ia29 rfl
theorem i29_91 {xs : List Int32} : xtI (xTa xs) 29 91 = some (.getfield 172, 3) := x_ins (j := 47) kk29 ia29 rfl
theorem i29_94 {xs : List Int32} : xtI (xTa xs) 29 94 = some (.aload 5, 2) := x_ins (j := 48) kk29 ia29 rfl
theorem i29_96 {xs : List Int32} : xtI (xTa xs) 29 96 = some (.getfield 197, 3) := x_ins (j := 49) kk29 ia29 rfl
theorem i29_99 {xs : List Int32} : xtI (xTa xs) 29 99 = some (.aload 5, 2) := x_ins (j := 50) kk29 ia29 rfl
theorem i29_101 {xs : List Int32} : xtI (xTa xs) 29 101 = some (.getfield 200, 3) := x_ins (j := 51) kk29 ia29 rfl
theorem i29_104 {xs : List Int32} : xtI (xTa xs) 29 104 = some (.invokevirtual 203, 3) := x_ins (j := 52) kk29 ia29 rfl
theorem i29_107 {xs : List Int32} : xtI (xTa xs) 29 107 = some (.aload 5, 2) := x_ins (j := 53) kk29 ia29 rfl
theorem i29_109 {xs : List Int32} : xtI (xTa xs) 29 109 = some (.getfield 206, 3) := x_ins (j := 54) kk29 ia29 rfl
theorem i29_112 {xs : List Int32} : xtI (xTa xs) 29 112 = some (.iconst 2, 1) := x_ins (j := 55) kk29 ia29 rfl
theorem i29_113 {xs : List Int32} : xtI (xTa xs) 29 113 = some (.if_icmp .ne 19, 3) := x_ins (j := 56) kk29 ia29 rfl
theorem i29_116 {xs : List Int32} : xtI (xTa xs) 29 116 = some (.aload_n 0, 1) := x_ins (j := 57) kk29 ia29 rfl
theorem i29_117 {xs : List Int32} : xtI (xTa xs) 29 117 = some (.getfield 22, 3) := x_ins (j := 58) kk29 ia29 rfl
theorem i29_120 {xs : List Int32} : xtI (xTa xs) 29 120 = some (.aload_n 1, 1) := x_ins (j := 59) kk29 ia29 rfl
theorem i29_121 {xs : List Int32} : xtI (xTa xs) 29 121 = some (.aload 5, 2) := x_ins (j := 60) kk29 ia29 rfl
theorem i29_123 {xs : List Int32} : xtI (xTa xs) 29 123 = some (.getfield 207, 3) := x_ins (j := 61) kk29 ia29 rfl
theorem i29_126 {xs : List Int32} : xtI (xTa xs) 29 126 = some (.invokevirtual 211, 3) := x_ins (j := 62) kk29 ia29 rfl
theorem i29_129 {xs : List Int32} : xtI (xTa xs) 29 129 = some (.invokestatic 127, 3) := x_ins (j := 63) kk29 ia29 rfl
theorem i29_132 {xs : List Int32} : xtI (xTa xs) 29 132 = some (.aload_n 0, 1) := x_ins (j := 64) kk29 ia29 rfl
theorem i29_133 {xs : List Int32} : xtI (xTa xs) 29 133 = some (.invokevirtual 215, 3) := x_ins (j := 65) kk29 ia29 rfl
theorem i29_136 {xs : List Int32} : xtI (xTa xs) 29 136 = some (.iinc 4 1, 3) := x_ins (j := 66) kk29 ia29 rfl
theorem i29_139 {xs : List Int32} : xtI (xTa xs) 29 139 = some (.goto (-93), 3) := x_ins (j := 67) kk29 ia29 rfl
theorem i29_142 {xs : List Int32} : xtI (xTa xs) 29 142 = some (.return_, 1) := x_ins (j := 68) kk29 ia29 rfl
theorem kk30 : xK0.getD 30 [] = k30 := rfl
set_option maxRecDepth 100000 in
theorem ia30 : (k30.all fun e => decide (k30.lookup e.1 = some e.2)) = true := by decide +kernel
theorem i30_0 {xs : List Int32} : xtI (xTa xs) 30 0 = some (.aload_n 0, 1) := x_ins (j := 0) kk30 ia30 rfl
theorem i30_1 {xs : List Int32} : xtI (xTa xs) 30 1 = some (.invokevirtual 194, 3) := x_ins (j := 1) kk30 ia30 rfl
theorem i30_4 {xs : List Int32} : xtI (xTa xs) 30 4 = some (.aload_n 0, 1) := x_ins (j := 2) kk30 ia30 rfl
theorem i30_5 {xs : List Int32} : xtI (xTa xs) 30 5 = some (.getfield 22, 3) := x_ins (j := 3) kk30 ia30 rfl
theorem i30_8 {xs : List Int32} : xtI (xTa xs) 30 8 = some (.aload_n 2, 1) := x_ins (j := 4) kk30 ia30 rfl
theorem i30_9 {xs : List Int32} : xtI (xTa xs) 30 9 = some (.getfield 55, 3) := x_ins (j := 5) kk30 ia30 rfl
theorem i30_12 {xs : List Int32} : xtI (xTa xs) 30 12 = some (.invokestatic 218, 3) := x_ins (j := 6) kk30 ia30 rfl
theorem i30_15 {xs : List Int32} : xtI (xTa xs) 30 15 = some (.invokevirtual 222, 3) := x_ins (j := 7) kk30 ia30 rfl
theorem i30_18 {xs : List Int32} : xtI (xTa xs) 30 18 = some (.aload_n 2, 1) := x_ins (j := 8) kk30 ia30 rfl
theorem i30_19 {xs : List Int32} : xtI (xTa xs) 30 19 = some (.getfield 55, 3) := x_ins (j := 9) kk30 ia30 rfl
theorem i30_22 {xs : List Int32} : xtI (xTa xs) 30 22 = some (.iconst 3, 1) := x_ins (j := 10) kk30 ia30 rfl
theorem i30_23 {xs : List Int32} : xtI (xTa xs) 30 23 = some (.if_icmp .eq 29, 3) := x_ins (j := 11) kk30 ia30 rfl
theorem i30_26 {xs : List Int32} : xtI (xTa xs) 30 26 = some (.aload_n 0, 1) := x_ins (j := 12) kk30 ia30 rfl
theorem i30_27 {xs : List Int32} : xtI (xTa xs) 30 27 = some (.getfield 22, 3) := x_ins (j := 13) kk30 ia30 rfl
theorem i30_30 {xs : List Int32} : xtI (xTa xs) 30 30 = some (.bipush 32, 2) := x_ins (j := 14) kk30 ia30 rfl
theorem i30_32 {xs : List Int32} : xtI (xTa xs) 30 32 = some (.invokevirtual 141, 3) := x_ins (j := 15) kk30 ia30 rfl
theorem i30_35 {xs : List Int32} : xtI (xTa xs) 30 35 = some (.pop, 1) := x_ins (j := 16) kk30 ia30 rfl
theorem i30_36 {xs : List Int32} : xtI (xTa xs) 30 36 = some (.aload_n 0, 1) := x_ins (j := 17) kk30 ia30 rfl
theorem i30_37 {xs : List Int32} : xtI (xTa xs) 30 37 = some (.getfield 22, 3) := x_ins (j := 18) kk30 ia30 rfl
theorem i30_40 {xs : List Int32} : xtI (xTa xs) 30 40 = some (.aload_n 3, 1) := x_ins (j := 19) kk30 ia30 rfl
theorem i30_41 {xs : List Int32} : xtI (xTa xs) 30 41 = some (.aload_n 2, 1) := x_ins (j := 20) kk30 ia30 rfl
theorem i30_42 {xs : List Int32} : xtI (xTa xs) 30 42 = some (.getfield 226, 3) := x_ins (j := 21) kk30 ia30 rfl
theorem i30_45 {xs : List Int32} : xtI (xTa xs) 30 45 = some (.aload_n 2, 1) := x_ins (j := 22) kk30 ia30 rfl
theorem i30_46 {xs : List Int32} : xtI (xTa xs) 30 46 = some (.getfield 229, 3) := x_ins (j := 23) kk30 ia30 rfl
theorem i30_49 {xs : List Int32} : xtI (xTa xs) 30 49 = some (.invokevirtual 203, 3) := x_ins (j := 24) kk30 ia30 rfl
theorem i30_52 {xs : List Int32} : xtI (xTa xs) 30 52 = some (.aload_n 2, 1) := x_ins (j := 25) kk30 ia30 rfl
theorem i30_53 {xs : List Int32} : xtI (xTa xs) 30 53 = some (.invokevirtual 232, 3) := x_ins (j := 26) kk30 ia30 rfl
theorem i30_56 {xs : List Int32} : xtI (xTa xs) 30 56 = some (.ifCond .eq 18, 3) := x_ins (j := 27) kk30 ia30 rfl
theorem i30_59 {xs : List Int32} : xtI (xTa xs) 30 59 = some (.aload_n 0, 1) := x_ins (j := 28) kk30 ia30 rfl
theorem i30_60 {xs : List Int32} : xtI (xTa xs) 30 60 = some (.getfield 22, 3) := x_ins (j := 29) kk30 ia30 rfl
theorem i30_63 {xs : List Int32} : xtI (xTa xs) 30 63 = some (.aload_n 1, 1) := x_ins (j := 30) kk30 ia30 rfl
theorem i30_64 {xs : List Int32} : xtI (xTa xs) 30 64 = some (.aload_n 2, 1) := x_ins (j := 31) kk30 ia30 rfl
theorem i30_65 {xs : List Int32} : xtI (xTa xs) 30 65 = some (.getfield 236, 3) := x_ins (j := 32) kk30 ia30 rfl
theorem i30_68 {xs : List Int32} : xtI (xTa xs) 30 68 = some (.invokevirtual 211, 3) := x_ins (j := 33) kk30 ia30 rfl
theorem i30_71 {xs : List Int32} : xtI (xTa xs) 30 71 = some (.invokestatic 127, 3) := x_ins (j := 34) kk30 ia30 rfl
theorem i30_74 {xs : List Int32} : xtI (xTa xs) 30 74 = some (.aload_n 0, 1) := x_ins (j := 35) kk30 ia30 rfl
theorem i30_75 {xs : List Int32} : xtI (xTa xs) 30 75 = some (.invokevirtual 215, 3) := x_ins (j := 36) kk30 ia30 rfl
theorem i30_78 {xs : List Int32} : xtI (xTa xs) 30 78 = some (.return_, 1) := x_ins (j := 37) kk30 ia30 rfl
theorem kk31 : xK0.getD 31 [] = k31 := rfl
set_option maxRecDepth 100000 in
theorem ia31 : (k31.all fun e => decide (k31.lookup e.1 = some e.2)) = true := by decide +kernel
theorem i31_0 {xs : List Int32} : xtI (xTa xs) 31 0 = some (.aload_n 0, 1) := x_ins (j := 0) kk31 ia31 rfl
theorem i31_1 {xs : List Int32} : xtI (xTa xs) 31 1 = some (.getfield 166, 3) := x_ins (j := 1) kk31 ia31 rfl
theorem i31_4 {xs : List Int32} : xtI (xTa xs) 31 4 = some (.iconst 1, 1) := x_ins (j := 2) kk31 ia31 rfl
theorem i31_5 {xs : List Int32} : xtI (xTa xs) 31 5 = some (.iadd, 1) := x_ins (j := 3) kk31 ia31 rfl
theorem i31_6 {xs : List Int32} : xtI (xTa xs) 31 6 = some (.aload_n 0, 1) := x_ins (j := 4) kk31 ia31 rfl
theorem i31_7 {xs : List Int32} : xtI (xTa xs) 31 7 = some (.getfield 26, 3) := x_ins (j := 5) kk31 ia31 rfl
theorem i31_10 {xs : List Int32} : xtI (xTa xs) 31 10 = some (.arraylength, 1) := x_ins (j := 6) kk31 ia31 rfl
theorem i31_11 {xs : List Int32} : xtI (xTa xs) 31 11 = some (.if_icmp .ge 29, 3) := x_ins (j := 7) kk31 ia31 rfl
theorem i31_14 {xs : List Int32} : xtI (xTa xs) 31 14 = some (.aload_n 0, 1) := x_ins (j := 8) kk31 ia31 rfl
theorem i31_15 {xs : List Int32} : xtI (xTa xs) 31 15 = some (.getfield 26, 3) := x_ins (j := 9) kk31 ia31 rfl
theorem i31_18 {xs : List Int32} : xtI (xTa xs) 31 18 = some (.aload_n 0, 1) := x_ins (j := 10) kk31 ia31 rfl
theorem i31_19 {xs : List Int32} : xtI (xTa xs) 31 19 = some (.getfield 166, 3) := x_ins (j := 11) kk31 ia31 rfl
theorem i31_22 {xs : List Int32} : xtI (xTa xs) 31 22 = some (.aload_n 0, 1) := x_ins (j := 12) kk31 ia31 rfl
theorem i31_23 {xs : List Int32} : xtI (xTa xs) 31 23 = some (.getfield 22, 3) := x_ins (j := 13) kk31 ia31 rfl
theorem i31_26 {xs : List Int32} : xtI (xTa xs) 31 26 = some (.getfield 131, 3) := x_ins (j := 14) kk31 ia31 rfl
theorem i31_29 {xs : List Int32} : xtI (xTa xs) 31 29 = some (.iastore, 1) := x_ins (j := 15) kk31 ia31 rfl
theorem i31_30 {xs : List Int32} : xtI (xTa xs) 31 30 = some (.aload_n 0, 1) := x_ins (j := 16) kk31 ia31 rfl
theorem i31_31 {xs : List Int32} : xtI (xTa xs) 31 31 = some (.dup, 1) := x_ins (j := 17) kk31 ia31 rfl
theorem i31_32 {xs : List Int32} : xtI (xTa xs) 31 32 = some (.getfield 166, 3) := x_ins (j := 18) kk31 ia31 rfl
theorem i31_35 {xs : List Int32} : xtI (xTa xs) 31 35 = some (.iconst 1, 1) := x_ins (j := 19) kk31 ia31 rfl
theorem i31_36 {xs : List Int32} : xtI (xTa xs) 31 36 = some (.iadd, 1) := x_ins (j := 20) kk31 ia31 rfl
theorem i31_37 {xs : List Int32} : xtI (xTa xs) 31 37 = some (.putfield 166, 3) := x_ins (j := 21) kk31 ia31 rfl
theorem i31_40 {xs : List Int32} : xtI (xTa xs) 31 40 = some (.return_, 1) := x_ins (j := 22) kk31 ia31 rfl
theorem kk32 : xK0.getD 32 [] = k32 := rfl
set_option maxRecDepth 100000 in
theorem ia32 : (k32.all fun e => decide (k32.lookup e.1 = some e.2)) = true := by decide +kernel
theorem i32_0 {xs : List Int32} : xtI (xTa xs) 32 0 = some (.aload_n 0, 1) := x_ins (j := 0) kk32 ia32 rfl
theorem i32_1 {xs : List Int32} : xtI (xTa xs) 32 1 = some (.getfield 166, 3) := x_ins (j := 1) kk32 ia32 rfl
theorem i32_4 {xs : List Int32} : xtI (xTa xs) 32 4 = some (.aload_n 0, 1) := x_ins (j := 2) kk32 ia32 rfl
theorem i32_5 {xs : List Int32} : xtI (xTa xs) 32 5 = some (.getfield 26, 3) := x_ins (j := 3) kk32 ia32 rfl
theorem i32_8 {xs : List Int32} : xtI (xTa xs) 32 8 = some (.arraylength, 1) := x_ins (j := 4) kk32 ia32 rfl
theorem i32_9 {xs : List Int32} : xtI (xTa xs) 32 9 = some (.if_icmp .ge 19, 3) := x_ins (j := 5) kk32 ia32 rfl
theorem i32_12 {xs : List Int32} : xtI (xTa xs) 32 12 = some (.aload_n 0, 1) := x_ins (j := 6) kk32 ia32 rfl
theorem i32_13 {xs : List Int32} : xtI (xTa xs) 32 13 = some (.getfield 26, 3) := x_ins (j := 7) kk32 ia32 rfl
theorem i32_16 {xs : List Int32} : xtI (xTa xs) 32 16 = some (.aload_n 0, 1) := x_ins (j := 8) kk32 ia32 rfl
theorem i32_17 {xs : List Int32} : xtI (xTa xs) 32 17 = some (.getfield 166, 3) := x_ins (j := 9) kk32 ia32 rfl
theorem i32_20 {xs : List Int32} : xtI (xTa xs) 32 20 = some (.aload_n 0, 1) := x_ins (j := 10) kk32 ia32 rfl
theorem i32_21 {xs : List Int32} : xtI (xTa xs) 32 21 = some (.getfield 22, 3) := x_ins (j := 11) kk32 ia32 rfl
theorem i32_24 {xs : List Int32} : xtI (xTa xs) 32 24 = some (.getfield 131, 3) := x_ins (j := 12) kk32 ia32 rfl
theorem i32_27 {xs : List Int32} : xtI (xTa xs) 32 27 = some (.iastore, 1) := x_ins (j := 13) kk32 ia32 rfl
theorem i32_28 {xs : List Int32} : xtI (xTa xs) 32 28 = some (.return_, 1) := x_ins (j := 14) kk32 ia32 rfl
theorem kk33 : xK0.getD 33 [] = k33 := rfl
set_option maxRecDepth 100000 in
theorem ia33 : (k33.all fun e => decide (k33.lookup e.1 = some e.2)) = true := by decide +kernel
theorem i33_0 {xs : List Int32} : xtI (xTa xs) 33 0 = some (.iload_n 1, 1) := x_ins (j := 0) kk33 ia33 rfl
theorem i33_1 {xs : List Int32} : xtI (xTa xs) 33 1 = some (.ifCond .ne 10, 3) := x_ins (j := 1) kk33 ia33 rfl
theorem i33_4 {xs : List Int32} : xtI (xTa xs) 33 4 = some (.aload_n 0, 1) := x_ins (j := 2) kk33 ia33 rfl
theorem i33_5 {xs : List Int32} : xtI (xTa xs) 33 5 = some (.getfield 151, 3) := x_ins (j := 3) kk33 ia33 rfl
theorem i33_8 {xs : List Int32} : xtI (xTa xs) 33 8 = some (.goto 7, 3) := x_ins (j := 4) kk33 ia33 rfl
theorem i33_11 {xs : List Int32} : xtI (xTa xs) 33 11 = some (.aload_n 0, 1) := x_ins (j := 5) kk33 ia33 rfl
theorem i33_12 {xs : List Int32} : xtI (xTa xs) 33 12 = some (.getfield 154, 3) := x_ins (j := 6) kk33 ia33 rfl
theorem i33_15 {xs : List Int32} : xtI (xTa xs) 33 15 = some (.istore_n 3, 1) := x_ins (j := 7) kk33 ia33 rfl
theorem i33_16 {xs : List Int32} : xtI (xTa xs) 33 16 = some (.iload_n 3, 1) := x_ins (j := 8) kk33 ia33 rfl
theorem i33_17 {xs : List Int32} : xtI (xTa xs) 33 17 = some (.aload_n 0, 1) := x_ins (j := 9) kk33 ia33 rfl
theorem i33_18 {xs : List Int32} : xtI (xTa xs) 33 18 = some (.iload_n 2, 1) := x_ins (j := 10) kk33 ia33 rfl
theorem i33_19 {xs : List Int32} : xtI (xTa xs) 33 19 = some (.invokevirtual 237, 3) := x_ins (j := 11) kk33 ia33 rfl
theorem i33_22 {xs : List Int32} : xtI (xTa xs) 33 22 = some (.iadd, 1) := x_ins (j := 12) kk33 ia33 rfl
theorem i33_23 {xs : List Int32} : xtI (xTa xs) 33 23 = some (.aload_n 0, 1) := x_ins (j := 13) kk33 ia33 rfl
theorem i33_24 {xs : List Int32} : xtI (xTa xs) 33 24 = some (.iload_n 1, 1) := x_ins (j := 14) kk33 ia33 rfl
theorem i33_25 {xs : List Int32} : xtI (xTa xs) 33 25 = some (.invokevirtual 237, 3) := x_ins (j := 15) kk33 ia33 rfl
theorem i33_28 {xs : List Int32} : xtI (xTa xs) 33 28 = some (.isub, 1) := x_ins (j := 16) kk33 ia33 rfl
theorem i33_29 {xs : List Int32} : xtI (xTa xs) 33 29 = some (.iload_n 2, 1) := x_ins (j := 17) kk33 ia33 rfl
theorem i33_30 {xs : List Int32} : xtI (xTa xs) 33 30 = some (.iadd, 1) := x_ins (j := 18) kk33 ia33 rfl
theorem i33_31 {xs : List Int32} : xtI (xTa xs) 33 31 = some (.iload_n 1, 1) := x_ins (j := 19) kk33 ia33 rfl
theorem i33_32 {xs : List Int32} : xtI (xTa xs) 33 32 = some (.isub, 1) := x_ins (j := 20) kk33 ia33 rfl
theorem i33_33 {xs : List Int32} : xtI (xTa xs) 33 33 = some (.iconst 1, 1) := x_ins (j := 21) kk33 ia33 rfl
theorem i33_34 {xs : List Int32} : xtI (xTa xs) 33 34 = some (.isub, 1) := x_ins (j := 22) kk33 ia33 rfl
theorem i33_35 {xs : List Int32} : xtI (xTa xs) 33 35 = some (.ireturn, 1) := x_ins (j := 23) kk33 ia33 rfl
theorem kk34 : xK0.getD 34 [] = k34 := rfl
set_option maxRecDepth 100000 in
theorem ia34 : (k34.all fun e => decide (k34.lookup e.1 = some e.2)) = true := by decide +kernel
theorem i34_0 {xs : List Int32} : xtI (xTa xs) 34 0 = some (.iload_n 1, 1) := x_ins (j := 0) kk34 ia34 rfl
theorem i34_1 {xs : List Int32} : xtI (xTa xs) 34 1 = some (.ifCond .lt 11, 3) := x_ins (j := 1) kk34 ia34 rfl
theorem i34_4 {xs : List Int32} : xtI (xTa xs) 34 4 = some (.iload_n 1, 1) := x_ins (j := 2) kk34 ia34 rfl
theorem i34_5 {xs : List Int32} : xtI (xTa xs) 34 5 = some (.aload_n 0, 1) := x_ins (j := 3) kk34 ia34 rfl
theorem i34_6 {xs : List Int32} : xtI (xTa xs) 34 6 = some (.getfield 166, 3) := x_ins (j := 4) kk34 ia34 rfl
theorem i34_9 {xs : List Int32} : xtI (xTa xs) 34 9 = some (.if_icmp .le 13, 3) := x_ins (j := 5) kk34 ia34 rfl
theorem i34_12 {xs : List Int32} : xtI (xTa xs) 34 12 = some (.aload_n 0, 1) := x_ins (j := 6) kk34 ia34 rfl
theorem i34_13 {xs : List Int32} : xtI (xTa xs) 34 13 = some (.getfield 22, 3) := x_ins (j := 7) kk34 ia34 rfl
theorem i34_16 {xs : List Int32} : xtI (xTa xs) 34 16 = some (.getfield 131, 3) := x_ins (j := 8) kk34 ia34 rfl
theorem i34_19 {xs : List Int32} : xtI (xTa xs) 34 19 = some (.goto 9, 3) := x_ins (j := 9) kk34 ia34 rfl
theorem i34_22 {xs : List Int32} : xtI (xTa xs) 34 22 = some (.aload_n 0, 1) := x_ins (j := 10) kk34 ia34 rfl
theorem i34_23 {xs : List Int32} : xtI (xTa xs) 34 23 = some (.getfield 26, 3) := x_ins (j := 11) kk34 ia34 rfl
theorem i34_26 {xs : List Int32} : xtI (xTa xs) 34 26 = some (.iload_n 1, 1) := x_ins (j := 12) kk34 ia34 rfl
theorem i34_27 {xs : List Int32} : xtI (xTa xs) 34 27 = some (.iaload, 1) := x_ins (j := 13) kk34 ia34 rfl
theorem i34_28 {xs : List Int32} : xtI (xTa xs) 34 28 = some (.ireturn, 1) := x_ins (j := 14) kk34 ia34 rfl
theorem kk35 : xK0.getD 35 [] = k35 := rfl
set_option maxRecDepth 100000 in
theorem ia35 : (k35.all fun e => decide (k35.lookup e.1 = some e.2)) = true := by decide +kernel
theorem i35_0 {xs : List Int32} : xtI (xTa xs) 35 0 = some (.iload_n 1, 1) := x_ins (j := 0) kk35 ia35 rfl
theorem i35_1 {xs : List Int32} : xtI (xTa xs) 35 1 = some (.iconst 1, 1) := x_ins (j := 1) kk35 ia35 rfl
theorem i35_2 {xs : List Int32} : xtI (xTa xs) 35 2 = some (.iadd, 1) := x_ins (j := 2) kk35 ia35 rfl
theorem i35_3 {xs : List Int32} : xtI (xTa xs) 35 3 = some (.istore_n 2, 1) := x_ins (j := 3) kk35 ia35 rfl
theorem i35_4 {xs : List Int32} : xtI (xTa xs) 35 4 = some (.iload_n 2, 1) := x_ins (j := 4) kk35 ia35 rfl
theorem i35_5 {xs : List Int32} : xtI (xTa xs) 35 5 = some (.aload_n 0, 1) := x_ins (j := 5) kk35 ia35 rfl
theorem i35_6 {xs : List Int32} : xtI (xTa xs) 35 6 = some (.getfield 166, 3) := x_ins (j := 6) kk35 ia35 rfl
theorem i35_9 {xs : List Int32} : xtI (xTa xs) 35 9 = some (.if_icmp .ge 24, 3) := x_ins (j := 7) kk35 ia35 rfl
theorem i35_12 {xs : List Int32} : xtI (xTa xs) 35 12 = some (.aload_n 0, 1) := x_ins (j := 8) kk35 ia35 rfl
theorem i35_13 {xs : List Int32} : xtI (xTa xs) 35 13 = some (.iload_n 1, 1) := x_ins (j := 9) kk35 ia35 rfl
theorem i35_14 {xs : List Int32} : xtI (xTa xs) 35 14 = some (.iload_n 2, 1) := x_ins (j := 10) kk35 ia35 rfl
theorem i35_15 {xs : List Int32} : xtI (xTa xs) 35 15 = some (.iconst 1, 1) := x_ins (j := 11) kk35 ia35 rfl
theorem i35_16 {xs : List Int32} : xtI (xTa xs) 35 16 = some (.iadd, 1) := x_ins (j := 12) kk35 ia35 rfl
theorem i35_17 {xs : List Int32} : xtI (xTa xs) 35 17 = some (.invokevirtual 241, 3) := x_ins (j := 13) kk35 ia35 rfl
theorem i35_20 {xs : List Int32} : xtI (xTa xs) 35 20 = some (.aload_n 0, 1) := x_ins (j := 14) kk35 ia35 rfl
theorem i35_21 {xs : List Int32} : xtI (xTa xs) 35 21 = some (.getfield 83, 3) := x_ins (j := 15) kk35 ia35 rfl
theorem i35_24 {xs : List Int32} : xtI (xTa xs) 35 24 = some (.if_icmp .gt 9, 3) := x_ins (j := 16) kk35 ia35 rfl
theorem i35_27 {xs : List Int32} : xtI (xTa xs) 35 27 = some (.iinc 2 1, 3) := x_ins (j := 17) kk35 ia35 rfl
theorem i35_30 {xs : List Int32} : xtI (xTa xs) 35 30 = some (.goto (-26), 3) := x_ins (j := 18) kk35 ia35 rfl
theorem i35_33 {xs : List Int32} : xtI (xTa xs) 35 33 = some (.iload_n 2, 1) := x_ins (j := 19) kk35 ia35 rfl
theorem i35_34 {xs : List Int32} : xtI (xTa xs) 35 34 = some (.ireturn, 1) := x_ins (j := 20) kk35 ia35 rfl
theorem kk36 : xK0.getD 36 [] = k36 := rfl
set_option maxRecDepth 100000 in
theorem ia36 : (k36.all fun e => decide (k36.lookup e.1 = some e.2)) = true := by decide +kernel
theorem i36_0 {xs : List Int32} : xtI (xTa xs) 36 0 = some (.iload_n 2, 1) := x_ins (j := 0) kk36 ia36 rfl
theorem i36_1 {xs : List Int32} : xtI (xTa xs) 36 1 = some (.aload_n 0, 1) := x_ins (j := 1) kk36 ia36 rfl
theorem i36_2 {xs : List Int32} : xtI (xTa xs) 36 2 = some (.getfield 166, 3) := x_ins (j := 2) kk36 ia36 rfl
theorem i36_5 {xs : List Int32} : xtI (xTa xs) 36 5 = some (.if_icmp .ge 21, 3) := x_ins (j := 3) kk36 ia36 rfl
theorem i36_8 {xs : List Int32} : xtI (xTa xs) 36 8 = some (.iconst 0, 1) := x_ins (j := 4) kk36 ia36 rfl
theorem i36_9 {xs : List Int32} : xtI (xTa xs) 36 9 = some (.aload_n 0, 1) := x_ins (j := 5) kk36 ia36 rfl
theorem i36_10 {xs : List Int32} : xtI (xTa xs) 36 10 = some (.getfield 83, 3) := x_ins (j := 6) kk36 ia36 rfl
theorem i36_13 {xs : List Int32} : xtI (xTa xs) 36 13 = some (.aload_n 0, 1) := x_ins (j := 7) kk36 ia36 rfl
theorem i36_14 {xs : List Int32} : xtI (xTa xs) 36 14 = some (.iload_n 1, 1) := x_ins (j := 8) kk36 ia36 rfl
theorem i36_15 {xs : List Int32} : xtI (xTa xs) 36 15 = some (.iload_n 2, 1) := x_ins (j := 9) kk36 ia36 rfl
theorem i36_16 {xs : List Int32} : xtI (xTa xs) 36 16 = some (.invokevirtual 241, 3) := x_ins (j := 10) kk36 ia36 rfl
theorem i36_19 {xs : List Int32} : xtI (xTa xs) 36 19 = some (.isub, 1) := x_ins (j := 11) kk36 ia36 rfl
theorem i36_20 {xs : List Int32} : xtI (xTa xs) 36 20 = some (.invokestatic 245, 3) := x_ins (j := 12) kk36 ia36 rfl
theorem i36_23 {xs : List Int32} : xtI (xTa xs) 36 23 = some (.goto 4, 3) := x_ins (j := 13) kk36 ia36 rfl
theorem i36_26 {xs : List Int32} : xtI (xTa xs) 36 26 = some (.iconst 0, 1) := x_ins (j := 14) kk36 ia36 rfl
theorem i36_27 {xs : List Int32} : xtI (xTa xs) 36 27 = some (.istore_n 3, 1) := x_ins (j := 15) kk36 ia36 rfl
theorem i36_28 {xs : List Int32} : xtI (xTa xs) 36 28 = some (.iload_n 3, 1) := x_ins (j := 16) kk36 ia36 rfl
theorem i36_29 {xs : List Int32} : xtI (xTa xs) 36 29 = some (.iload_n 3, 1) := x_ins (j := 17) kk36 ia36 rfl
theorem i36_30 {xs : List Int32} : xtI (xTa xs) 36 30 = some (.imul, 1) := x_ins (j := 18) kk36 ia36 rfl
theorem i36_31 {xs : List Int32} : xtI (xTa xs) 36 31 = some (.ireturn, 1) := x_ins (j := 19) kk36 ia36 rfl
theorem kk37 : xK0.getD 37 [] = k37 := rfl
set_option maxRecDepth 100000 in
theorem ia37 : (k37.all fun e => decide (k37.lookup e.1 = some e.2)) = true := by decide +kernel
theorem i37_0 {xs : List Int32} : xtI (xTa xs) 37 0 = some (.iconst 0, 1) := x_ins (j := 0) kk37 ia37 rfl
theorem i37_1 {xs : List Int32} : xtI (xTa xs) 37 1 = some (.istore_n 1, 1) := x_ins (j := 1) kk37 ia37 rfl
theorem i37_2 {xs : List Int32} : xtI (xTa xs) 37 2 = some (.iload_n 1, 1) := x_ins (j := 2) kk37 ia37 rfl
theorem i37_3 {xs : List Int32} : xtI (xTa xs) 37 3 = some (.aload_n 0, 1) := x_ins (j := 3) kk37 ia37 rfl
theorem i37_4 {xs : List Int32} : xtI (xTa xs) 37 4 = some (.getfield 166, 3) := x_ins (j := 4) kk37 ia37 rfl
theorem i37_7 {xs : List Int32} : xtI (xTa xs) 37 7 = some (.if_icmp .ge 20, 3) := x_ins (j := 5) kk37 ia37 rfl
theorem i37_10 {xs : List Int32} : xtI (xTa xs) 37 10 = some (.aload_n 0, 1) := x_ins (j := 6) kk37 ia37 rfl
theorem i37_11 {xs : List Int32} : xtI (xTa xs) 37 11 = some (.getfield 30, 3) := x_ins (j := 7) kk37 ia37 rfl
theorem i37_14 {xs : List Int32} : xtI (xTa xs) 37 14 = some (.iload_n 1, 1) := x_ins (j := 8) kk37 ia37 rfl
theorem i37_15 {xs : List Int32} : xtI (xTa xs) 37 15 = some (.aload_n 0, 1) := x_ins (j := 9) kk37 ia37 rfl
theorem i37_16 {xs : List Int32} : xtI (xTa xs) 37 16 = some (.iload_n 1, 1) := x_ins (j := 10) kk37 ia37 rfl
theorem i37_17 {xs : List Int32} : xtI (xTa xs) 37 17 = some (.invokevirtual 250, 3) := x_ins (j := 11) kk37 ia37 rfl
theorem i37_20 {xs : List Int32} : xtI (xTa xs) 37 20 = some (.iastore, 1) := x_ins (j := 12) kk37 ia37 rfl
theorem i37_21 {xs : List Int32} : xtI (xTa xs) 37 21 = some (.iinc 1 1, 3) := x_ins (j := 13) kk37 ia37 rfl
theorem i37_24 {xs : List Int32} : xtI (xTa xs) 37 24 = some (.goto (-22), 3) := x_ins (j := 14) kk37 ia37 rfl
theorem i37_27 {xs : List Int32} : xtI (xTa xs) 37 27 = some (.return_, 1) := x_ins (j := 15) kk37 ia37 rfl
theorem kk38 : xK0.getD 38 [] = k38 := rfl
set_option maxRecDepth 100000 in
theorem ia38 : (k38.all fun e => decide (k38.lookup e.1 = some e.2)) = true := by decide +kernel
theorem i38_0 {xs : List Int32} : xtI (xTa xs) 38 0 = some (.aload_n 0, 1) := x_ins (j := 0) kk38 ia38 rfl
theorem i38_1 {xs : List Int32} : xtI (xTa xs) 38 1 = some (.getfield 33, 3) := x_ins (j := 1) kk38 ia38 rfl
theorem i38_4 {xs : List Int32} : xtI (xTa xs) 38 4 = some (.aload_n 0, 1) := x_ins (j := 2) kk38 ia38 rfl
theorem i38_5 {xs : List Int32} : xtI (xTa xs) 38 5 = some (.getfield 166, 3) := x_ins (j := 3) kk38 ia38 rfl
theorem i38_8 {xs : List Int32} : xtI (xTa xs) 38 8 = some (.iconst 0, 1) := x_ins (j := 4) kk38 ia38 rfl
theorem i38_9 {xs : List Int32} : xtI (xTa xs) 38 9 = some (.iastore, 1) := x_ins (j := 5) kk38 ia38 rfl
theorem i38_10 {xs : List Int32} : xtI (xTa xs) 38 10 = some (.aload_n 0, 1) := x_ins (j := 6) kk38 ia38 rfl
theorem i38_11 {xs : List Int32} : xtI (xTa xs) 38 11 = some (.getfield 166, 3) := x_ins (j := 7) kk38 ia38 rfl
theorem i38_14 {xs : List Int32} : xtI (xTa xs) 38 14 = some (.iconst 1, 1) := x_ins (j := 8) kk38 ia38 rfl
theorem i38_15 {xs : List Int32} : xtI (xTa xs) 38 15 = some (.isub, 1) := x_ins (j := 9) kk38 ia38 rfl
theorem i38_16 {xs : List Int32} : xtI (xTa xs) 38 16 = some (.istore_n 1, 1) := x_ins (j := 10) kk38 ia38 rfl
theorem i38_17 {xs : List Int32} : xtI (xTa xs) 38 17 = some (.iload_n 1, 1) := x_ins (j := 11) kk38 ia38 rfl
theorem i38_18 {xs : List Int32} : xtI (xTa xs) 38 18 = some (.ifCond .lt 97, 3) := x_ins (j := 12) kk38 ia38 rfl
theorem i38_21 {xs : List Int32} : xtI (xTa xs) 38 21 = some (.aload_n 0, 1) := x_ins (j := 13) kk38 ia38 rfl
theorem i38_22 {xs : List Int32} : xtI (xTa xs) 38 22 = some (.iload_n 1, 1) := x_ins (j := 14) kk38 ia38 rfl
theorem i38_23 {xs : List Int32} : xtI (xTa xs) 38 23 = some (.invokevirtual 250, 3) := x_ins (j := 15) kk38 ia38 rfl
theorem i38_26 {xs : List Int32} : xtI (xTa xs) 38 26 = some (.istore_n 2, 1) := x_ins (j := 16) kk38 ia38 rfl
theorem i38_27 {xs : List Int32} : xtI (xTa xs) 38 27 = some (.aload_n 0, 1) := x_ins (j := 17) kk38 ia38 rfl
theorem i38_28 {xs : List Int32} : xtI (xTa xs) 38 28 = some (.getfield 30, 3) := x_ins (j := 18) kk38 ia38 rfl
theorem i38_31 {xs : List Int32} : xtI (xTa xs) 38 31 = some (.iload_n 1, 1) := x_ins (j := 19) kk38 ia38 rfl
theorem i38_32 {xs : List Int32} : xtI (xTa xs) 38 32 = some (.iload_n 2, 1) := x_ins (j := 20) kk38 ia38 rfl
theorem i38_33 {xs : List Int32} : xtI (xTa xs) 38 33 = some (.iastore, 1) := x_ins (j := 21) kk38 ia38 rfl
theorem i38_34 {xs : List Int32} : xtI (xTa xs) 38 34 = some (.aload_n 0, 1) := x_ins (j := 22) kk38 ia38 rfl
theorem i38_35 {xs : List Int32} : xtI (xTa xs) 38 35 = some (.getfield 33, 3) := x_ins (j := 23) kk38 ia38 rfl
theorem i38_38 {xs : List Int32} : xtI (xTa xs) 38 38 = some (.iload_n 1, 1) := x_ins (j := 24) kk38 ia38 rfl
theorem i38_39 {xs : List Int32} : xtI (xTa xs) 38 39 = some (.aload_n 0, 1) := x_ins (j := 25) kk38 ia38 rfl
theorem i38_40 {xs : List Int32} : xtI (xTa xs) 38 40 = some (.iload_n 1, 1) := x_ins (j := 26) kk38 ia38 rfl
theorem i38_41 {xs : List Int32} : xtI (xTa xs) 38 41 = some (.iload_n 2, 1) := x_ins (j := 27) kk38 ia38 rfl
theorem i38_42 {xs : List Int32} : xtI (xTa xs) 38 42 = some (.invokevirtual 253, 3) := x_ins (j := 28) kk38 ia38 rfl
theorem i38_45 {xs : List Int32} : xtI (xTa xs) 38 45 = some (.aload_n 0, 1) := x_ins (j := 29) kk38 ia38 rfl
theorem i38_46 {xs : List Int32} : xtI (xTa xs) 38 46 = some (.getfield 33, 3) := x_ins (j := 30) kk38 ia38 rfl
theorem i38_49 {xs : List Int32} : xtI (xTa xs) 38 49 = some (.iload_n 2, 1) := x_ins (j := 31) kk38 ia38 rfl
theorem i38_50 {xs : List Int32} : xtI (xTa xs) 38 50 = some (.iaload, 1) := x_ins (j := 32) kk38 ia38 rfl
theorem i38_51 {xs : List Int32} : xtI (xTa xs) 38 51 = some (.iadd, 1) := x_ins (j := 33) kk38 ia38 rfl
theorem i38_52 {xs : List Int32} : xtI (xTa xs) 38 52 = some (.iastore, 1) := x_ins (j := 34) kk38 ia38 rfl
theorem i38_53 {xs : List Int32} : xtI (xTa xs) 38 53 = some (.iload_n 2, 1) := x_ins (j := 35) kk38 ia38 rfl
theorem i38_54 {xs : List Int32} : xtI (xTa xs) 38 54 = some (.iconst 1, 1) := x_ins (j := 36) kk38 ia38 rfl
theorem i38_55 {xs : List Int32} : xtI (xTa xs) 38 55 = some (.isub, 1) := x_ins (j := 37) kk38 ia38 rfl
theorem i38_56 {xs : List Int32} : xtI (xTa xs) 38 56 = some (.istore_n 3, 1) := x_ins (j := 38) kk38 ia38 rfl
theorem i38_57 {xs : List Int32} : xtI (xTa xs) 38 57 = some (.iload_n 3, 1) := x_ins (j := 39) kk38 ia38 rfl
theorem i38_58 {xs : List Int32} : xtI (xTa xs) 38 58 = some (.iload_n 1, 1) := x_ins (j := 40) kk38 ia38 rfl
theorem i38_59 {xs : List Int32} : xtI (xTa xs) 38 59 = some (.if_icmp .le 50, 3) := x_ins (j := 41) kk38 ia38 rfl
theorem i38_62 {xs : List Int32} : xtI (xTa xs) 38 62 = some (.aload_n 0, 1) := x_ins (j := 42) kk38 ia38 rfl
theorem i38_63 {xs : List Int32} : xtI (xTa xs) 38 63 = some (.iload_n 1, 1) := x_ins (j := 43) kk38 ia38 rfl
theorem i38_64 {xs : List Int32} : xtI (xTa xs) 38 64 = some (.iload_n 3, 1) := x_ins (j := 44) kk38 ia38 rfl
theorem i38_65 {xs : List Int32} : xtI (xTa xs) 38 65 = some (.invokevirtual 253, 3) := x_ins (j := 45) kk38 ia38 rfl
theorem i38_68 {xs : List Int32} : xtI (xTa xs) 38 68 = some (.aload_n 0, 1) := x_ins (j := 46) kk38 ia38 rfl
theorem i38_69 {xs : List Int32} : xtI (xTa xs) 38 69 = some (.getfield 33, 3) := x_ins (j := 47) kk38 ia38 rfl
theorem i38_72 {xs : List Int32} : xtI (xTa xs) 38 72 = some (.iload_n 3, 1) := x_ins (j := 48) kk38 ia38 rfl
theorem i38_73 {xs : List Int32} : xtI (xTa xs) 38 73 = some (.iaload, 1) := x_ins (j := 49) kk38 ia38 rfl
theorem i38_74 {xs : List Int32} : xtI (xTa xs) 38 74 = some (.iadd, 1) := x_ins (j := 50) kk38 ia38 rfl
theorem i38_75 {xs : List Int32} : xtI (xTa xs) 38 75 = some (.istore 4, 2) := x_ins (j := 51) kk38 ia38 rfl
theorem i38_77 {xs : List Int32} : xtI (xTa xs) 38 77 = some (.iload 4, 2) := x_ins (j := 52) kk38 ia38 rfl
theorem i38_79 {xs : List Int32} : xtI (xTa xs) 38 79 = some (.aload_n 0, 1) := x_ins (j := 53) kk38 ia38 rfl
theorem i38_80 {xs : List Int32} : xtI (xTa xs) 38 80 = some (.getfield 33, 3) := x_ins (j := 54) kk38 ia38 rfl
theorem i38_83 {xs : List Int32} : xtI (xTa xs) 38 83 = some (.iload_n 1, 1) := x_ins (j := 55) kk38 ia38 rfl
theorem i38_84 {xs : List Int32} : xtI (xTa xs) 38 84 = some (.iaload, 1) := x_ins (j := 56) kk38 ia38 rfl
theorem i38_85 {xs : List Int32} : xtI (xTa xs) 38 85 = some (.if_icmp .ge 18, 3) := x_ins (j := 57) kk38 ia38 rfl
theorem i38_88 {xs : List Int32} : xtI (xTa xs) 38 88 = some (.aload_n 0, 1) := x_ins (j := 58) kk38 ia38 rfl
theorem i38_89 {xs : List Int32} : xtI (xTa xs) 38 89 = some (.getfield 30, 3) := x_ins (j := 59) kk38 ia38 rfl
theorem i38_92 {xs : List Int32} : xtI (xTa xs) 38 92 = some (.iload_n 1, 1) := x_ins (j := 60) kk38 ia38 rfl
theorem i38_93 {xs : List Int32} : xtI (xTa xs) 38 93 = some (.iload_n 3, 1) := x_ins (j := 61) kk38 ia38 rfl
theorem i38_94 {xs : List Int32} : xtI (xTa xs) 38 94 = some (.iastore, 1) := x_ins (j := 62) kk38 ia38 rfl
theorem i38_95 {xs : List Int32} : xtI (xTa xs) 38 95 = some (.aload_n 0, 1) := x_ins (j := 63) kk38 ia38 rfl
theorem i38_96 {xs : List Int32} : xtI (xTa xs) 38 96 = some (.getfield 33, 3) := x_ins (j := 64) kk38 ia38 rfl
theorem i38_99 {xs : List Int32} : xtI (xTa xs) 38 99 = some (.iload_n 1, 1) := x_ins (j := 65) kk38 ia38 rfl
theorem i38_100 {xs : List Int32} : xtI (xTa xs) 38 100 = some (.iload 4, 2) := x_ins (j := 66) kk38 ia38 rfl
theorem i38_102 {xs : List Int32} : xtI (xTa xs) 38 102 = some (.iastore, 1) := x_ins (j := 67) kk38 ia38 rfl
theorem i38_103 {xs : List Int32} : xtI (xTa xs) 38 103 = some (.iinc 3 (-1), 3) := x_ins (j := 68) kk38 ia38 rfl
theorem i38_106 {xs : List Int32} : xtI (xTa xs) 38 106 = some (.goto (-49), 3) := x_ins (j := 69) kk38 ia38 rfl
theorem i38_109 {xs : List Int32} : xtI (xTa xs) 38 109 = some (.iinc 1 (-1), 3) := x_ins (j := 70) kk38 ia38 rfl
theorem i38_112 {xs : List Int32} : xtI (xTa xs) 38 112 = some (.goto (-95), 3) := x_ins (j := 71) kk38 ia38 rfl
theorem i38_115 {xs : List Int32} : xtI (xTa xs) 38 115 = some (.return_, 1) := x_ins (j := 72) kk38 ia38 rfl
theorem kk39 : xK0.getD 39 [] = k39 := rfl
set_option maxRecDepth 100000 in
theorem ia39 : (k39.all fun e => decide (k39.lookup e.1 = some e.2)) = true := by decide +kernel
theorem i39_0 {xs : List Int32} : xtI (xTa xs) 39 0 = some (.aload_n 0, 1) := x_ins (j := 0) kk39 ia39 rfl
theorem i39_1 {xs : List Int32} : xtI (xTa xs) 39 1 = some (.getfield 166, 3) := x_ins (j := 1) kk39 ia39 rfl
theorem i39_4 {xs : List Int32} : xtI (xTa xs) 39 4 = some (.ifCond .ne 7, 3) := x_ins (j := 2) kk39 ia39 rfl
theorem i39_7 {xs : List Int32} : xtI (xTa xs) 39 7 = some (.aload_n 1, 1) := x_ins (j := 3) kk39 ia39 rfl
theorem i39_8 {xs : List Int32} : xtI (xTa xs) 39 8 = some (.invokevirtual 95, 3) := x_ins (j := 4) kk39 ia39 rfl
theorem i39_11 {xs : List Int32} : xtI (xTa xs) 39 11 = some (.iconst 0, 1) := x_ins (j := 5) kk39 ia39 rfl
theorem i39_12 {xs : List Int32} : xtI (xTa xs) 39 12 = some (.istore_n 2, 1) := x_ins (j := 6) kk39 ia39 rfl
theorem i39_13 {xs : List Int32} : xtI (xTa xs) 39 13 = some (.iconst 0, 1) := x_ins (j := 7) kk39 ia39 rfl
theorem i39_14 {xs : List Int32} : xtI (xTa xs) 39 14 = some (.istore_n 3, 1) := x_ins (j := 8) kk39 ia39 rfl
theorem i39_15 {xs : List Int32} : xtI (xTa xs) 39 15 = some (.iload_n 3, 1) := x_ins (j := 9) kk39 ia39 rfl
theorem i39_16 {xs : List Int32} : xtI (xTa xs) 39 16 = some (.aload_n 0, 1) := x_ins (j := 10) kk39 ia39 rfl
theorem i39_17 {xs : List Int32} : xtI (xTa xs) 39 17 = some (.getfield 26, 3) := x_ins (j := 11) kk39 ia39 rfl
theorem i39_20 {xs : List Int32} : xtI (xTa xs) 39 20 = some (.arraylength, 1) := x_ins (j := 12) kk39 ia39 rfl
theorem i39_21 {xs : List Int32} : xtI (xTa xs) 39 21 = some (.if_icmp .ge 126, 3) := x_ins (j := 13) kk39 ia39 rfl
theorem i39_24 {xs : List Int32} : xtI (xTa xs) 39 24 = some (.iload_n 2, 1) := x_ins (j := 14) kk39 ia39 rfl
theorem i39_25 {xs : List Int32} : xtI (xTa xs) 39 25 = some (.aload_n 0, 1) := x_ins (j := 15) kk39 ia39 rfl
theorem i39_26 {xs : List Int32} : xtI (xTa xs) 39 26 = some (.getfield 166, 3) := x_ins (j := 16) kk39 ia39 rfl
theorem i39_29 {xs : List Int32} : xtI (xTa xs) 39 29 = some (.if_icmp .ge 118, 3) := x_ins (j := 17) kk39 ia39 rfl
theorem i39_32 {xs : List Int32} : xtI (xTa xs) 39 32 = some (.aload_n 0, 1) := x_ins (j := 18) kk39 ia39 rfl
theorem i39_33 {xs : List Int32} : xtI (xTa xs) 39 33 = some (.getfield 30, 3) := x_ins (j := 19) kk39 ia39 rfl
theorem i39_36 {xs : List Int32} : xtI (xTa xs) 39 36 = some (.iload_n 2, 1) := x_ins (j := 20) kk39 ia39 rfl
theorem i39_37 {xs : List Int32} : xtI (xTa xs) 39 37 = some (.iaload, 1) := x_ins (j := 21) kk39 ia39 rfl
theorem i39_38 {xs : List Int32} : xtI (xTa xs) 39 38 = some (.istore 4, 2) := x_ins (j := 22) kk39 ia39 rfl
theorem i39_40 {xs : List Int32} : xtI (xTa xs) 39 40 = some (.iload_n 2, 1) := x_ins (j := 23) kk39 ia39 rfl
theorem i39_41 {xs : List Int32} : xtI (xTa xs) 39 41 = some (.ifCond .le 11, 3) := x_ins (j := 24) kk39 ia39 rfl
theorem i39_44 {xs : List Int32} : xtI (xTa xs) 39 44 = some (.aload_n 1, 1) := x_ins (j := 25) kk39 ia39 rfl
theorem i39_45 {xs : List Int32} : xtI (xTa xs) 39 45 = some (.aload_n 0, 1) := x_ins (j := 26) kk39 ia39 rfl
theorem i39_46 {xs : List Int32} : xtI (xTa xs) 39 46 = some (.getfield 154, 3) := x_ins (j := 27) kk39 ia39 rfl
theorem i39_49 {xs : List Int32} : xtI (xTa xs) 39 49 = some (.invokevirtual 163, 3) := x_ins (j := 28) kk39 ia39 rfl
theorem i39_52 {xs : List Int32} : xtI (xTa xs) 39 52 = some (.aload_n 1, 1) := x_ins (j := 29) kk39 ia39 rfl
theorem i39_53 {xs : List Int32} : xtI (xTa xs) 39 53 = some (.aload_n 0, 1) := x_ins (j := 30) kk39 ia39 rfl
theorem i39_54 {xs : List Int32} : xtI (xTa xs) 39 54 = some (.getfield 22, 3) := x_ins (j := 31) kk39 ia39 rfl
theorem i39_57 {xs : List Int32} : xtI (xTa xs) 39 57 = some (.aload_n 0, 1) := x_ins (j := 32) kk39 ia39 rfl
theorem i39_58 {xs : List Int32} : xtI (xTa xs) 39 58 = some (.iload_n 2, 1) := x_ins (j := 33) kk39 ia39 rfl
theorem i39_59 {xs : List Int32} : xtI (xTa xs) 39 59 = some (.invokevirtual 237, 3) := x_ins (j := 34) kk39 ia39 rfl
theorem i39_62 {xs : List Int32} : xtI (xTa xs) 39 62 = some (.aload_n 0, 1) := x_ins (j := 35) kk39 ia39 rfl
theorem i39_63 {xs : List Int32} : xtI (xTa xs) 39 63 = some (.iload_n 2, 1) := x_ins (j := 36) kk39 ia39 rfl
theorem i39_64 {xs : List Int32} : xtI (xTa xs) 39 64 = some (.iconst 1, 1) := x_ins (j := 37) kk39 ia39 rfl
theorem i39_65 {xs : List Int32} : xtI (xTa xs) 39 65 = some (.iadd, 1) := x_ins (j := 38) kk39 ia39 rfl
theorem i39_66 {xs : List Int32} : xtI (xTa xs) 39 66 = some (.invokevirtual 237, 3) := x_ins (j := 39) kk39 ia39 rfl
theorem i39_69 {xs : List Int32} : xtI (xTa xs) 39 69 = some (.invokevirtual 134, 3) := x_ins (j := 40) kk39 ia39 rfl
theorem i39_72 {xs : List Int32} : xtI (xTa xs) 39 72 = some (.iload_n 2, 1) := x_ins (j := 41) kk39 ia39 rfl
theorem i39_73 {xs : List Int32} : xtI (xTa xs) 39 73 = some (.iconst 1, 1) := x_ins (j := 42) kk39 ia39 rfl
theorem i39_74 {xs : List Int32} : xtI (xTa xs) 39 74 = some (.iadd, 1) := x_ins (j := 43) kk39 ia39 rfl
theorem i39_75 {xs : List Int32} : xtI (xTa xs) 39 75 = some (.istore 5, 2) := x_ins (j := 44) kk39 ia39 rfl
theorem i39_77 {xs : List Int32} : xtI (xTa xs) 39 77 = some (.iload 5, 2) := x_ins (j := 45) kk39 ia39 rfl
theorem i39_79 {xs : List Int32} : xtI (xTa xs) 39 79 = some (.iload 4, 2) := x_ins (j := 46) kk39 ia39 rfl
theorem i39_81 {xs : List Int32} : xtI (xTa xs) 39 81 = some (.if_icmp .ge 37, 3) := x_ins (j := 47) kk39 ia39 rfl
theorem i39_84 {xs : List Int32} : xtI (xTa xs) 39 84 = some (.aload_n 1, 1) := x_ins (j := 48) kk39 ia39 rfl
theorem i39_85 {xs : List Int32} : xtI (xTa xs) 39 85 = some (.bipush 32, 2) := x_ins (j := 49) kk39 ia39 rfl
theorem i39_87 {xs : List Int32} : xtI (xTa xs) 39 87 = some (.invokevirtual 138, 3) := x_ins (j := 50) kk39 ia39 rfl
theorem i39_90 {xs : List Int32} : xtI (xTa xs) 39 90 = some (.aload_n 1, 1) := x_ins (j := 51) kk39 ia39 rfl
theorem i39_91 {xs : List Int32} : xtI (xTa xs) 39 91 = some (.aload_n 0, 1) := x_ins (j := 52) kk39 ia39 rfl
theorem i39_92 {xs : List Int32} : xtI (xTa xs) 39 92 = some (.getfield 22, 3) := x_ins (j := 53) kk39 ia39 rfl
theorem i39_95 {xs : List Int32} : xtI (xTa xs) 39 95 = some (.aload_n 0, 1) := x_ins (j := 54) kk39 ia39 rfl
theorem i39_96 {xs : List Int32} : xtI (xTa xs) 39 96 = some (.iload 5, 2) := x_ins (j := 55) kk39 ia39 rfl
theorem i39_98 {xs : List Int32} : xtI (xTa xs) 39 98 = some (.invokevirtual 237, 3) := x_ins (j := 56) kk39 ia39 rfl
theorem i39_101 {xs : List Int32} : xtI (xTa xs) 39 101 = some (.aload_n 0, 1) := x_ins (j := 57) kk39 ia39 rfl
theorem i39_102 {xs : List Int32} : xtI (xTa xs) 39 102 = some (.iload 5, 2) := x_ins (j := 58) kk39 ia39 rfl
theorem i39_104 {xs : List Int32} : xtI (xTa xs) 39 104 = some (.iconst 1, 1) := x_ins (j := 59) kk39 ia39 rfl
theorem i39_105 {xs : List Int32} : xtI (xTa xs) 39 105 = some (.iadd, 1) := x_ins (j := 60) kk39 ia39 rfl
theorem i39_106 {xs : List Int32} : xtI (xTa xs) 39 106 = some (.invokevirtual 237, 3) := x_ins (j := 61) kk39 ia39 rfl
theorem i39_109 {xs : List Int32} : xtI (xTa xs) 39 109 = some (.invokevirtual 134, 3) := x_ins (j := 62) kk39 ia39 rfl
theorem i39_112 {xs : List Int32} : xtI (xTa xs) 39 112 = some (.iinc 5 1, 3) := x_ins (j := 63) kk39 ia39 rfl
theorem i39_115 {xs : List Int32} : xtI (xTa xs) 39 115 = some (.goto (-38), 3) := x_ins (j := 64) kk39 ia39 rfl
theorem i39_118 {xs : List Int32} : xtI (xTa xs) 39 118 = some (.aload_n 1, 1) := x_ins (j := 65) kk39 ia39 rfl
theorem i39_119 {xs : List Int32} : xtI (xTa xs) 39 119 = some (.invokevirtual 95, 3) := x_ins (j := 66) kk39 ia39 rfl
theorem i39_122 {xs : List Int32} : xtI (xTa xs) 39 122 = some (.aload_n 1, 1) := x_ins (j := 67) kk39 ia39 rfl
theorem i39_123 {xs : List Int32} : xtI (xTa xs) 39 123 = some (.dup, 1) := x_ins (j := 68) kk39 ia39 rfl
theorem i39_124 {xs : List Int32} : xtI (xTa xs) 39 124 = some (.getfield 256, 3) := x_ins (j := 69) kk39 ia39 rfl
theorem i39_127 {xs : List Int32} : xtI (xTa xs) 39 127 = some (.aload_n 0, 1) := x_ins (j := 70) kk39 ia39 rfl
theorem i39_128 {xs : List Int32} : xtI (xTa xs) 39 128 = some (.iload_n 2, 1) := x_ins (j := 71) kk39 ia39 rfl
theorem i39_129 {xs : List Int32} : xtI (xTa xs) 39 129 = some (.iload 4, 2) := x_ins (j := 72) kk39 ia39 rfl
theorem i39_131 {xs : List Int32} : xtI (xTa xs) 39 131 = some (.invokevirtual 253, 3) := x_ins (j := 73) kk39 ia39 rfl
theorem i39_134 {xs : List Int32} : xtI (xTa xs) 39 134 = some (.iadd, 1) := x_ins (j := 74) kk39 ia39 rfl
theorem i39_135 {xs : List Int32} : xtI (xTa xs) 39 135 = some (.putfield 256, 3) := x_ins (j := 75) kk39 ia39 rfl
theorem i39_138 {xs : List Int32} : xtI (xTa xs) 39 138 = some (.iload 4, 2) := x_ins (j := 76) kk39 ia39 rfl
theorem i39_140 {xs : List Int32} : xtI (xTa xs) 39 140 = some (.istore_n 2, 1) := x_ins (j := 77) kk39 ia39 rfl
theorem i39_141 {xs : List Int32} : xtI (xTa xs) 39 141 = some (.iinc 3 1, 3) := x_ins (j := 78) kk39 ia39 rfl
theorem i39_144 {xs : List Int32} : xtI (xTa xs) 39 144 = some (.goto (-129), 3) := x_ins (j := 79) kk39 ia39 rfl
theorem i39_147 {xs : List Int32} : xtI (xTa xs) 39 147 = some (.return_, 1) := x_ins (j := 80) kk39 ia39 rfl
theorem kk40 : xK0.getD 40 [] = k40 := rfl
set_option maxRecDepth 100000 in
theorem ia40 : (k40.all fun e => decide (k40.lookup e.1 = some e.2)) = true := by decide +kernel
theorem i40_0 {xs : List Int32} : xtI (xTa xs) 40 0 = some (.aload_n 0, 1) := x_ins (j := 0) kk40 ia40 rfl
theorem i40_1 {xs : List Int32} : xtI (xTa xs) 40 1 = some (.invokespecial 3, 3) := x_ins (j := 1) kk40 ia40 rfl
theorem i40_4 {xs : List Int32} : xtI (xTa xs) 40 4 = some (.aload_n 0, 1) := x_ins (j := 2) kk40 ia40 rfl
theorem i40_5 {xs : List Int32} : xtI (xTa xs) 40 5 = some (.sipush 216, 3) := x_ins (j := 3) kk40 ia40 rfl
theorem i40_8 {xs : List Int32} : xtI (xTa xs) 40 8 = some (.newarray .int, 2) := x_ins (j := 4) kk40 ia40 rfl
theorem i40_10 {xs : List Int32} : xtI (xTa xs) 40 10 = some (.putfield 9, 3) := x_ins (j := 5) kk40 ia40 rfl
theorem i40_13 {xs : List Int32} : xtI (xTa xs) 40 13 = some (.aload_n 0, 1) := x_ins (j := 6) kk40 ia40 rfl
theorem i40_14 {xs : List Int32} : xtI (xTa xs) 40 14 = some (.sipush 216, 3) := x_ins (j := 7) kk40 ia40 rfl
theorem i40_17 {xs : List Int32} : xtI (xTa xs) 40 17 = some (.newarray .int, 2) := x_ins (j := 8) kk40 ia40 rfl
theorem i40_19 {xs : List Int32} : xtI (xTa xs) 40 19 = some (.putfield 15, 3) := x_ins (j := 9) kk40 ia40 rfl
theorem i40_22 {xs : List Int32} : xtI (xTa xs) 40 22 = some (.return_, 1) := x_ins (j := 10) kk40 ia40 rfl
theorem kk41 : xK0.getD 41 [] = k41 := rfl
set_option maxRecDepth 100000 in
theorem ia41 : (k41.all fun e => decide (k41.lookup e.1 = some e.2)) = true := by decide +kernel
theorem i41_0 {xs : List Int32} : xtI (xTa xs) 41 0 = some (.aload_n 0, 1) := x_ins (j := 0) kk41 ia41 rfl
theorem i41_1 {xs : List Int32} : xtI (xTa xs) 41 1 = some (.getfield 18, 3) := x_ins (j := 1) kk41 ia41 rfl
theorem i41_4 {xs : List Int32} : xtI (xTa xs) 41 4 = some (.aload_n 0, 1) := x_ins (j := 2) kk41 ia41 rfl
theorem i41_5 {xs : List Int32} : xtI (xTa xs) 41 5 = some (.getfield 9, 3) := x_ins (j := 3) kk41 ia41 rfl
theorem i41_8 {xs : List Int32} : xtI (xTa xs) 41 8 = some (.arraylength, 1) := x_ins (j := 4) kk41 ia41 rfl
theorem i41_9 {xs : List Int32} : xtI (xTa xs) 41 9 = some (.if_icmp .ge 45, 3) := x_ins (j := 5) kk41 ia41 rfl
theorem i41_12 {xs : List Int32} : xtI (xTa xs) 41 12 = some (.aload_n 0, 1) := x_ins (j := 6) kk41 ia41 rfl
theorem i41_13 {xs : List Int32} : xtI (xTa xs) 41 13 = some (.getfield 18, 3) := x_ins (j := 7) kk41 ia41 rfl
theorem i41_16 {xs : List Int32} : xtI (xTa xs) 41 16 = some (.aload_n 0, 1) := x_ins (j := 8) kk41 ia41 rfl
theorem i41_17 {xs : List Int32} : xtI (xTa xs) 41 17 = some (.getfield 15, 3) := x_ins (j := 9) kk41 ia41 rfl
theorem i41_20 {xs : List Int32} : xtI (xTa xs) 41 20 = some (.arraylength, 1) := x_ins (j := 10) kk41 ia41 rfl
theorem i41_21 {xs : List Int32} : xtI (xTa xs) 41 21 = some (.if_icmp .ge 33, 3) := x_ins (j := 11) kk41 ia41 rfl
theorem i41_24 {xs : List Int32} : xtI (xTa xs) 41 24 = some (.aload_n 0, 1) := x_ins (j := 12) kk41 ia41 rfl
theorem i41_25 {xs : List Int32} : xtI (xTa xs) 41 25 = some (.getfield 9, 3) := x_ins (j := 13) kk41 ia41 rfl
theorem i41_28 {xs : List Int32} : xtI (xTa xs) 41 28 = some (.aload_n 0, 1) := x_ins (j := 14) kk41 ia41 rfl
theorem i41_29 {xs : List Int32} : xtI (xTa xs) 41 29 = some (.getfield 18, 3) := x_ins (j := 15) kk41 ia41 rfl
theorem i41_32 {xs : List Int32} : xtI (xTa xs) 41 32 = some (.iload_n 1, 1) := x_ins (j := 16) kk41 ia41 rfl
theorem i41_33 {xs : List Int32} : xtI (xTa xs) 41 33 = some (.iastore, 1) := x_ins (j := 17) kk41 ia41 rfl
theorem i41_34 {xs : List Int32} : xtI (xTa xs) 41 34 = some (.aload_n 0, 1) := x_ins (j := 18) kk41 ia41 rfl
theorem i41_35 {xs : List Int32} : xtI (xTa xs) 41 35 = some (.getfield 15, 3) := x_ins (j := 19) kk41 ia41 rfl
theorem i41_38 {xs : List Int32} : xtI (xTa xs) 41 38 = some (.aload_n 0, 1) := x_ins (j := 20) kk41 ia41 rfl
theorem i41_39 {xs : List Int32} : xtI (xTa xs) 41 39 = some (.getfield 18, 3) := x_ins (j := 21) kk41 ia41 rfl
theorem i41_42 {xs : List Int32} : xtI (xTa xs) 41 42 = some (.iload_n 2, 1) := x_ins (j := 22) kk41 ia41 rfl
theorem i41_43 {xs : List Int32} : xtI (xTa xs) 41 43 = some (.iastore, 1) := x_ins (j := 23) kk41 ia41 rfl
theorem i41_44 {xs : List Int32} : xtI (xTa xs) 41 44 = some (.aload_n 0, 1) := x_ins (j := 24) kk41 ia41 rfl
theorem i41_45 {xs : List Int32} : xtI (xTa xs) 41 45 = some (.dup, 1) := x_ins (j := 25) kk41 ia41 rfl
theorem i41_46 {xs : List Int32} : xtI (xTa xs) 41 46 = some (.getfield 18, 3) := x_ins (j := 26) kk41 ia41 rfl
theorem i41_49 {xs : List Int32} : xtI (xTa xs) 41 49 = some (.iconst 1, 1) := x_ins (j := 27) kk41 ia41 rfl
theorem i41_50 {xs : List Int32} : xtI (xTa xs) 41 50 = some (.iadd, 1) := x_ins (j := 28) kk41 ia41 rfl
theorem i41_51 {xs : List Int32} : xtI (xTa xs) 41 51 = some (.putfield 18, 3) := x_ins (j := 29) kk41 ia41 rfl
theorem i41_54 {xs : List Int32} : xtI (xTa xs) 41 54 = some (.return_, 1) := x_ins (j := 30) kk41 ia41 rfl
theorem kk42 : xK0.getD 42 [] = k42 := rfl
set_option maxRecDepth 100000 in
theorem ia42 : (k42.all fun e => decide (k42.lookup e.1 = some e.2)) = true := by decide +kernel
theorem i42_0 {xs : List Int32} : xtI (xTa xs) 42 0 = some (.aload_n 0, 1) := x_ins (j := 0) kk42 ia42 rfl
theorem i42_1 {xs : List Int32} : xtI (xTa xs) 42 1 = some (.iconst 0, 1) := x_ins (j := 1) kk42 ia42 rfl
theorem i42_2 {xs : List Int32} : xtI (xTa xs) 42 2 = some (.putfield 18, 3) := x_ins (j := 2) kk42 ia42 rfl
theorem i42_5 {xs : List Int32} : xtI (xTa xs) 42 5 = some (.aload_n 1, 1) := x_ins (j := 3) kk42 ia42 rfl
theorem i42_6 {xs : List Int32} : xtI (xTa xs) 42 6 = some (.aload_n 2, 1) := x_ins (j := 4) kk42 ia42 rfl
theorem i42_7 {xs : List Int32} : xtI (xTa xs) 42 7 = some (.invokevirtual 22, 3) := x_ins (j := 5) kk42 ia42 rfl
theorem i42_10 {xs : List Int32} : xtI (xTa xs) 42 10 = some (.ifnonnull 9, 3) := x_ins (j := 6) kk42 ia42 rfl
theorem i42_13 {xs : List Int32} : xtI (xTa xs) 42 13 = some (.aload_n 0, 1) := x_ins (j := 7) kk42 ia42 rfl
theorem i42_14 {xs : List Int32} : xtI (xTa xs) 42 14 = some (.iconst 1, 1) := x_ins (j := 8) kk42 ia42 rfl
theorem i42_15 {xs : List Int32} : xtI (xTa xs) 42 15 = some (.iconst 0, 1) := x_ins (j := 9) kk42 ia42 rfl
theorem i42_16 {xs : List Int32} : xtI (xTa xs) 42 16 = some (.invokevirtual 28, 3) := x_ins (j := 10) kk42 ia42 rfl
theorem i42_19 {xs : List Int32} : xtI (xTa xs) 42 19 = some (.aload_n 2, 1) := x_ins (j := 11) kk42 ia42 rfl
theorem i42_20 {xs : List Int32} : xtI (xTa xs) 42 20 = some (.invokevirtual 32, 3) := x_ins (j := 12) kk42 ia42 rfl
theorem i42_23 {xs : List Int32} : xtI (xTa xs) 42 23 = some (.astore_n 3, 1) := x_ins (j := 13) kk42 ia42 rfl
theorem i42_24 {xs : List Int32} : xtI (xTa xs) 42 24 = some (.aload_n 3, 1) := x_ins (j := 14) kk42 ia42 rfl
theorem i42_25 {xs : List Int32} : xtI (xTa xs) 42 25 = some (.ifnull 31, 3) := x_ins (j := 15) kk42 ia42 rfl
theorem i42_28 {xs : List Int32} : xtI (xTa xs) 42 28 = some (.aload_n 0, 1) := x_ins (j := 16) kk42 ia42 rfl
theorem i42_29 {xs : List Int32} : xtI (xTa xs) 42 29 = some (.aload_n 1, 1) := x_ins (j := 17) kk42 ia42 rfl
theorem i42_30 {xs : List Int32} : xtI (xTa xs) 42 30 = some (.aload_n 3, 1) := x_ins (j := 18) kk42 ia42 rfl
theorem i42_31 {xs : List Int32} : xtI (xTa xs) 42 31 = some (.invokevirtual 38, 3) := x_ins (j := 19) kk42 ia42 rfl
theorem i42_34 {xs : List Int32} : xtI (xTa xs) 42 34 = some (.aload_n 0, 1) := x_ins (j := 20) kk42 ia42 rfl
theorem i42_35 {xs : List Int32} : xtI (xTa xs) 42 35 = some (.aload_n 3, 1) := x_ins (j := 21) kk42 ia42 rfl
theorem i42_36 {xs : List Int32} : xtI (xTa xs) 42 36 = some (.aload_n 1, 1) := x_ins (j := 22) kk42 ia42 rfl
theorem i42_37 {xs : List Int32} : xtI (xTa xs) 42 37 = some (.aload_n 2, 1) := x_ins (j := 23) kk42 ia42 rfl
theorem i42_38 {xs : List Int32} : xtI (xTa xs) 42 38 = some (.invokevirtual 42, 3) := x_ins (j := 24) kk42 ia42 rfl
theorem i42_41 {xs : List Int32} : xtI (xTa xs) 42 41 = some (.invokevirtual 45, 3) := x_ins (j := 25) kk42 ia42 rfl
theorem i42_44 {xs : List Int32} : xtI (xTa xs) 42 44 = some (.aload_n 0, 1) := x_ins (j := 26) kk42 ia42 rfl
theorem i42_45 {xs : List Int32} : xtI (xTa xs) 42 45 = some (.aload_n 2, 1) := x_ins (j := 27) kk42 ia42 rfl
theorem i42_46 {xs : List Int32} : xtI (xTa xs) 42 46 = some (.aload_n 3, 1) := x_ins (j := 28) kk42 ia42 rfl
theorem i42_47 {xs : List Int32} : xtI (xTa xs) 42 47 = some (.invokevirtual 49, 3) := x_ins (j := 29) kk42 ia42 rfl
theorem i42_50 {xs : List Int32} : xtI (xTa xs) 42 50 = some (.aload_n 0, 1) := x_ins (j := 30) kk42 ia42 rfl
theorem i42_51 {xs : List Int32} : xtI (xTa xs) 42 51 = some (.aload_n 2, 1) := x_ins (j := 31) kk42 ia42 rfl
theorem i42_52 {xs : List Int32} : xtI (xTa xs) 42 52 = some (.aload_n 3, 1) := x_ins (j := 32) kk42 ia42 rfl
theorem i42_53 {xs : List Int32} : xtI (xTa xs) 42 53 = some (.invokevirtual 53, 3) := x_ins (j := 33) kk42 ia42 rfl
theorem i42_56 {xs : List Int32} : xtI (xTa xs) 42 56 = some (.aload_n 0, 1) := x_ins (j := 34) kk42 ia42 rfl
theorem i42_57 {xs : List Int32} : xtI (xTa xs) 42 57 = some (.aload_n 1, 1) := x_ins (j := 35) kk42 ia42 rfl
theorem i42_58 {xs : List Int32} : xtI (xTa xs) 42 58 = some (.aload_n 2, 1) := x_ins (j := 36) kk42 ia42 rfl
theorem i42_59 {xs : List Int32} : xtI (xTa xs) 42 59 = some (.invokevirtual 56, 3) := x_ins (j := 37) kk42 ia42 rfl
theorem i42_62 {xs : List Int32} : xtI (xTa xs) 42 62 = some (.return_, 1) := x_ins (j := 38) kk42 ia42 rfl
theorem kk43 : xK0.getD 43 [] = k43 := rfl
set_option maxRecDepth 100000 in
theorem ia43 : (k43.all fun e => decide (k43.lookup e.1 = some e.2)) = true := by decide +kernel
theorem i43_0 {xs : List Int32} : xtI (xTa xs) 43 0 = some (.iconst 0, 1) := x_ins (j := 0) kk43 ia43 rfl
theorem i43_1 {xs : List Int32} : xtI (xTa xs) 43 1 = some (.istore_n 3, 1) := x_ins (j := 1) kk43 ia43 rfl
theorem i43_2 {xs : List Int32} : xtI (xTa xs) 43 2 = some (.iload_n 3, 1) := x_ins (j := 2) kk43 ia43 rfl
theorem i43_3 {xs : List Int32} : xtI (xTa xs) 43 3 = some (.aload_n 2, 1) := x_ins (j := 3) kk43 ia43 rfl
theorem i43_4 {xs : List Int32} : xtI (xTa xs) 43 4 = some (.getfield 60, 3) := x_ins (j := 4) kk43 ia43 rfl
theorem i43_7 {xs : List Int32} : xtI (xTa xs) 43 7 = some (.if_icmp .ge 35, 3) := x_ins (j := 5) kk43 ia43 rfl
theorem i43_10 {xs : List Int32} : xtI (xTa xs) 43 10 = some (.aload_n 2, 1) := x_ins (j := 6) kk43 ia43 rfl
theorem i43_11 {xs : List Int32} : xtI (xTa xs) 43 11 = some (.iload_n 3, 1) := x_ins (j := 7) kk43 ia43 rfl
theorem i43_12 {xs : List Int32} : xtI (xTa xs) 43 12 = some (.invokevirtual 65, 3) := x_ins (j := 8) kk43 ia43 rfl
theorem i43_15 {xs : List Int32} : xtI (xTa xs) 43 15 = some (.astore 4, 2) := x_ins (j := 9) kk43 ia43 rfl
theorem i43_17 {xs : List Int32} : xtI (xTa xs) 43 17 = some (.aload 4, 2) := x_ins (j := 10) kk43 ia43 rfl
theorem i43_19 {xs : List Int32} : xtI (xTa xs) 43 19 = some (.ifnull 17, 3) := x_ins (j := 11) kk43 ia43 rfl
theorem i43_22 {xs : List Int32} : xtI (xTa xs) 43 22 = some (.aload_n 1, 1) := x_ins (j := 12) kk43 ia43 rfl
theorem i43_23 {xs : List Int32} : xtI (xTa xs) 43 23 = some (.aload_n 2, 1) := x_ins (j := 13) kk43 ia43 rfl
theorem i43_24 {xs : List Int32} : xtI (xTa xs) 43 24 = some (.aload 4, 2) := x_ins (j := 14) kk43 ia43 rfl
theorem i43_26 {xs : List Int32} : xtI (xTa xs) 43 26 = some (.invokevirtual 69, 3) := x_ins (j := 15) kk43 ia43 rfl
theorem i43_29 {xs : List Int32} : xtI (xTa xs) 43 29 = some (.aload_n 0, 1) := x_ins (j := 16) kk43 ia43 rfl
theorem i43_30 {xs : List Int32} : xtI (xTa xs) 43 30 = some (.aload_n 2, 1) := x_ins (j := 17) kk43 ia43 rfl
theorem i43_31 {xs : List Int32} : xtI (xTa xs) 43 31 = some (.aload 4, 2) := x_ins (j := 18) kk43 ia43 rfl
theorem i43_33 {xs : List Int32} : xtI (xTa xs) 43 33 = some (.invokevirtual 73, 3) := x_ins (j := 19) kk43 ia43 rfl
theorem i43_36 {xs : List Int32} : xtI (xTa xs) 43 36 = some (.iinc 3 1, 3) := x_ins (j := 20) kk43 ia43 rfl
theorem i43_39 {xs : List Int32} : xtI (xTa xs) 43 39 = some (.goto (-37), 3) := x_ins (j := 21) kk43 ia43 rfl
theorem i43_42 {xs : List Int32} : xtI (xTa xs) 43 42 = some (.return_, 1) := x_ins (j := 22) kk43 ia43 rfl
theorem kk44 : xK0.getD 44 [] = k44 := rfl
set_option maxRecDepth 100000 in
theorem ia44 : (k44.all fun e => decide (k44.lookup e.1 = some e.2)) = true := by decide +kernel
theorem i44_0 {xs : List Int32} : xtI (xTa xs) 44 0 = some (.aload_n 2, 1) := x_ins (j := 0) kk44 ia44 rfl
theorem i44_1 {xs : List Int32} : xtI (xTa xs) 44 1 = some (.invokevirtual 76, 3) := x_ins (j := 1) kk44 ia44 rfl
theorem i44_4 {xs : List Int32} : xtI (xTa xs) 44 4 = some (.ifCond .eq 19, 3) := x_ins (j := 2) kk44 ia44 rfl
theorem i44_7 {xs : List Int32} : xtI (xTa xs) 44 7 = some (.aload_n 2, 1) := x_ins (j := 3) kk44 ia44 rfl
theorem i44_8 {xs : List Int32} : xtI (xTa xs) 44 8 = some (.getfield 82, 3) := x_ins (j := 4) kk44 ia44 rfl
theorem i44_11 {xs : List Int32} : xtI (xTa xs) 44 11 = some (.ifnonnull 12, 3) := x_ins (j := 5) kk44 ia44 rfl
theorem i44_14 {xs : List Int32} : xtI (xTa xs) 44 14 = some (.aload_n 0, 1) := x_ins (j := 6) kk44 ia44 rfl
theorem i44_15 {xs : List Int32} : xtI (xTa xs) 44 15 = some (.iconst 2, 1) := x_ins (j := 7) kk44 ia44 rfl
theorem i44_16 {xs : List Int32} : xtI (xTa xs) 44 16 = some (.aload_n 2, 1) := x_ins (j := 8) kk44 ia44 rfl
theorem i44_17 {xs : List Int32} : xtI (xTa xs) 44 17 = some (.getfield 86, 3) := x_ins (j := 9) kk44 ia44 rfl
theorem i44_20 {xs : List Int32} : xtI (xTa xs) 44 20 = some (.invokevirtual 28, 3) := x_ins (j := 10) kk44 ia44 rfl
theorem i44_23 {xs : List Int32} : xtI (xTa xs) 44 23 = some (.iconst 0, 1) := x_ins (j := 11) kk44 ia44 rfl
theorem i44_24 {xs : List Int32} : xtI (xTa xs) 44 24 = some (.istore_n 3, 1) := x_ins (j := 12) kk44 ia44 rfl
theorem i44_25 {xs : List Int32} : xtI (xTa xs) 44 25 = some (.iload_n 3, 1) := x_ins (j := 13) kk44 ia44 rfl
theorem i44_26 {xs : List Int32} : xtI (xTa xs) 44 26 = some (.aload_n 2, 1) := x_ins (j := 14) kk44 ia44 rfl
theorem i44_27 {xs : List Int32} : xtI (xTa xs) 44 27 = some (.getfield 89, 3) := x_ins (j := 15) kk44 ia44 rfl
theorem i44_30 {xs : List Int32} : xtI (xTa xs) 44 30 = some (.if_icmp .ge 53, 3) := x_ins (j := 16) kk44 ia44 rfl
theorem i44_33 {xs : List Int32} : xtI (xTa xs) 44 33 = some (.aload_n 1, 1) := x_ins (j := 17) kk44 ia44 rfl
theorem i44_34 {xs : List Int32} : xtI (xTa xs) 44 34 = some (.aload_n 2, 1) := x_ins (j := 18) kk44 ia44 rfl
theorem i44_35 {xs : List Int32} : xtI (xTa xs) 44 35 = some (.getfield 92, 3) := x_ins (j := 19) kk44 ia44 rfl
theorem i44_38 {xs : List Int32} : xtI (xTa xs) 44 38 = some (.iload_n 3, 1) := x_ins (j := 20) kk44 ia44 rfl
theorem i44_39 {xs : List Int32} : xtI (xTa xs) 44 39 = some (.iadd, 1) := x_ins (j := 21) kk44 ia44 rfl
theorem i44_40 {xs : List Int32} : xtI (xTa xs) 44 40 = some (.invokevirtual 95, 3) := x_ins (j := 22) kk44 ia44 rfl
theorem i44_43 {xs : List Int32} : xtI (xTa xs) 44 43 = some (.astore 4, 2) := x_ins (j := 23) kk44 ia44 rfl
theorem i44_45 {xs : List Int32} : xtI (xTa xs) 44 45 = some (.aload 4, 2) := x_ins (j := 24) kk44 ia44 rfl
theorem i44_47 {xs : List Int32} : xtI (xTa xs) 44 47 = some (.ifnull 30, 3) := x_ins (j := 25) kk44 ia44 rfl
theorem i44_50 {xs : List Int32} : xtI (xTa xs) 44 50 = some (.aload 4, 2) := x_ins (j := 26) kk44 ia44 rfl
theorem i44_52 {xs : List Int32} : xtI (xTa xs) 44 52 = some (.getfield 99, 3) := x_ins (j := 27) kk44 ia44 rfl
theorem i44_55 {xs : List Int32} : xtI (xTa xs) 44 55 = some (.iconst 2, 1) := x_ins (j := 28) kk44 ia44 rfl
theorem i44_56 {xs : List Int32} : xtI (xTa xs) 44 56 = some (.if_icmp .ne 21, 3) := x_ins (j := 29) kk44 ia44 rfl
theorem i44_59 {xs : List Int32} : xtI (xTa xs) 44 59 = some (.aload 4, 2) := x_ins (j := 30) kk44 ia44 rfl
theorem i44_61 {xs : List Int32} : xtI (xTa xs) 44 61 = some (.getfield 104, 3) := x_ins (j := 31) kk44 ia44 rfl
theorem i44_64 {xs : List Int32} : xtI (xTa xs) 44 64 = some (.ifnonnull 13, 3) := x_ins (j := 32) kk44 ia44 rfl
theorem i44_67 {xs : List Int32} : xtI (xTa xs) 44 67 = some (.aload_n 0, 1) := x_ins (j := 33) kk44 ia44 rfl
theorem i44_68 {xs : List Int32} : xtI (xTa xs) 44 68 = some (.iconst 2, 1) := x_ins (j := 34) kk44 ia44 rfl
theorem i44_69 {xs : List Int32} : xtI (xTa xs) 44 69 = some (.aload 4, 2) := x_ins (j := 35) kk44 ia44 rfl
theorem i44_71 {xs : List Int32} : xtI (xTa xs) 44 71 = some (.getfield 105, 3) := x_ins (j := 36) kk44 ia44 rfl
theorem i44_74 {xs : List Int32} : xtI (xTa xs) 44 74 = some (.invokevirtual 28, 3) := x_ins (j := 37) kk44 ia44 rfl
theorem i44_77 {xs : List Int32} : xtI (xTa xs) 44 77 = some (.iinc 3 1, 3) := x_ins (j := 38) kk44 ia44 rfl
theorem i44_80 {xs : List Int32} : xtI (xTa xs) 44 80 = some (.goto (-55), 3) := x_ins (j := 39) kk44 ia44 rfl
theorem i44_83 {xs : List Int32} : xtI (xTa xs) 44 83 = some (.return_, 1) := x_ins (j := 40) kk44 ia44 rfl
theorem kk45 : xK0.getD 45 [] = k45 := rfl
set_option maxRecDepth 100000 in
theorem ia45 : (k45.all fun e => decide (k45.lookup e.1 = some e.2)) = true := by decide +kernel
theorem i45_0 {xs : List Int32} : xtI (xTa xs) 45 0 = some (.aload_n 1, 1) := x_ins (j := 0) kk45 ia45 rfl
theorem i45_1 {xs : List Int32} : xtI (xTa xs) 45 1 = some (.bipush 7, 2) := x_ins (j := 1) kk45 ia45 rfl
theorem i45_3 {xs : List Int32} : xtI (xTa xs) 45 3 = some (.invokevirtual 106, 3) := x_ins (j := 2) kk45 ia45 rfl
theorem i45_6 {xs : List Int32} : xtI (xTa xs) 45 6 = some (.astore_n 3, 1) := x_ins (j := 3) kk45 ia45 rfl
theorem i45_7 {xs : List Int32} : xtI (xTa xs) 45 7 = some (.aload_n 3, 1) := x_ins (j := 4) kk45 ia45 rfl
theorem i45_8 {xs : List Int32} : xtI (xTa xs) 45 8 = some (.ifnull 16, 3) := x_ins (j := 5) kk45 ia45 rfl
theorem i45_11 {xs : List Int32} : xtI (xTa xs) 45 11 = some (.aload_n 2, 1) := x_ins (j := 6) kk45 ia45 rfl
theorem i45_12 {xs : List Int32} : xtI (xTa xs) 45 12 = some (.ifnonnull 12, 3) := x_ins (j := 7) kk45 ia45 rfl
theorem i45_15 {xs : List Int32} : xtI (xTa xs) 45 15 = some (.aload_n 0, 1) := x_ins (j := 8) kk45 ia45 rfl
theorem i45_16 {xs : List Int32} : xtI (xTa xs) 45 16 = some (.iconst 3, 1) := x_ins (j := 9) kk45 ia45 rfl
theorem i45_17 {xs : List Int32} : xtI (xTa xs) 45 17 = some (.aload_n 3, 1) := x_ins (j := 10) kk45 ia45 rfl
theorem i45_18 {xs : List Int32} : xtI (xTa xs) 45 18 = some (.getfield 86, 3) := x_ins (j := 11) kk45 ia45 rfl
theorem i45_21 {xs : List Int32} : xtI (xTa xs) 45 21 = some (.invokevirtual 28, 3) := x_ins (j := 12) kk45 ia45 rfl
theorem i45_24 {xs : List Int32} : xtI (xTa xs) 45 24 = some (.return_, 1) := x_ins (j := 13) kk45 ia45 rfl
theorem kk46 : xK0.getD 46 [] = k46 := rfl
set_option maxRecDepth 100000 in
theorem ia46 : (k46.all fun e => decide (k46.lookup e.1 = some e.2)) = true := by decide +kernel
theorem i46_0 {xs : List Int32} : xtI (xTa xs) 46 0 = some (.iconst 0, 1) := x_ins (j := 0) kk46 ia46 rfl
theorem i46_1 {xs : List Int32} : xtI (xTa xs) 46 1 = some (.istore_n 3, 1) := x_ins (j := 1) kk46 ia46 rfl
theorem i46_2 {xs : List Int32} : xtI (xTa xs) 46 2 = some (.iload_n 3, 1) := x_ins (j := 2) kk46 ia46 rfl
theorem i46_3 {xs : List Int32} : xtI (xTa xs) 46 3 = some (.aload_n 2, 1) := x_ins (j := 3) kk46 ia46 rfl
theorem i46_4 {xs : List Int32} : xtI (xTa xs) 46 4 = some (.getfield 60, 3) := x_ins (j := 4) kk46 ia46 rfl
theorem i46_7 {xs : List Int32} : xtI (xTa xs) 46 7 = some (.if_icmp .ge 61, 3) := x_ins (j := 5) kk46 ia46 rfl
theorem i46_10 {xs : List Int32} : xtI (xTa xs) 46 10 = some (.aload_n 2, 1) := x_ins (j := 6) kk46 ia46 rfl
theorem i46_11 {xs : List Int32} : xtI (xTa xs) 46 11 = some (.iload_n 3, 1) := x_ins (j := 7) kk46 ia46 rfl
theorem i46_12 {xs : List Int32} : xtI (xTa xs) 46 12 = some (.invokevirtual 65, 3) := x_ins (j := 8) kk46 ia46 rfl
theorem i46_15 {xs : List Int32} : xtI (xTa xs) 46 15 = some (.astore 4, 2) := x_ins (j := 9) kk46 ia46 rfl
theorem i46_17 {xs : List Int32} : xtI (xTa xs) 46 17 = some (.aload 4, 2) := x_ins (j := 10) kk46 ia46 rfl
theorem i46_19 {xs : List Int32} : xtI (xTa xs) 46 19 = some (.ifnull 43, 3) := x_ins (j := 11) kk46 ia46 rfl
theorem i46_22 {xs : List Int32} : xtI (xTa xs) 46 22 = some (.aload 4, 2) := x_ins (j := 12) kk46 ia46 rfl
theorem i46_24 {xs : List Int32} : xtI (xTa xs) 46 24 = some (.getfield 109, 3) := x_ins (j := 13) kk46 ia46 rfl
theorem i46_27 {xs : List Int32} : xtI (xTa xs) 46 27 = some (.iconst 2, 1) := x_ins (j := 14) kk46 ia46 rfl
theorem i46_28 {xs : List Int32} : xtI (xTa xs) 46 28 = some (.if_icmp .ne 34, 3) := x_ins (j := 15) kk46 ia46 rfl
theorem i46_31 {xs : List Int32} : xtI (xTa xs) 46 31 = some (.aload_n 1, 1) := x_ins (j := 16) kk46 ia46 rfl
theorem i46_32 {xs : List Int32} : xtI (xTa xs) 46 32 = some (.aload_n 2, 1) := x_ins (j := 17) kk46 ia46 rfl
theorem i46_33 {xs : List Int32} : xtI (xTa xs) 46 33 = some (.getfield 110, 3) := x_ins (j := 18) kk46 ia46 rfl
theorem i46_36 {xs : List Int32} : xtI (xTa xs) 46 36 = some (.aload 4, 2) := x_ins (j := 19) kk46 ia46 rfl
theorem i46_38 {xs : List Int32} : xtI (xTa xs) 46 38 = some (.getfield 114, 3) := x_ins (j := 20) kk46 ia46 rfl
theorem i46_41 {xs : List Int32} : xtI (xTa xs) 46 41 = some (.aload 4, 2) := x_ins (j := 21) kk46 ia46 rfl
theorem i46_43 {xs : List Int32} : xtI (xTa xs) 46 43 = some (.getfield 117, 3) := x_ins (j := 22) kk46 ia46 rfl
theorem i46_46 {xs : List Int32} : xtI (xTa xs) 46 46 = some (.invokevirtual 120, 3) := x_ins (j := 23) kk46 ia46 rfl
theorem i46_49 {xs : List Int32} : xtI (xTa xs) 46 49 = some (.ifCond .ne 13, 3) := x_ins (j := 24) kk46 ia46 rfl
theorem i46_52 {xs : List Int32} : xtI (xTa xs) 46 52 = some (.aload_n 0, 1) := x_ins (j := 25) kk46 ia46 rfl
theorem i46_53 {xs : List Int32} : xtI (xTa xs) 46 53 = some (.iconst 4, 1) := x_ins (j := 26) kk46 ia46 rfl
theorem i46_54 {xs : List Int32} : xtI (xTa xs) 46 54 = some (.aload 4, 2) := x_ins (j := 27) kk46 ia46 rfl
theorem i46_56 {xs : List Int32} : xtI (xTa xs) 46 56 = some (.getfield 86, 3) := x_ins (j := 28) kk46 ia46 rfl
theorem i46_59 {xs : List Int32} : xtI (xTa xs) 46 59 = some (.invokevirtual 28, 3) := x_ins (j := 29) kk46 ia46 rfl
theorem i46_62 {xs : List Int32} : xtI (xTa xs) 46 62 = some (.iinc 3 1, 3) := x_ins (j := 30) kk46 ia46 rfl
theorem i46_65 {xs : List Int32} : xtI (xTa xs) 46 65 = some (.goto (-63), 3) := x_ins (j := 31) kk46 ia46 rfl
theorem i46_68 {xs : List Int32} : xtI (xTa xs) 46 68 = some (.return_, 1) := x_ins (j := 32) kk46 ia46 rfl
theorem kk47 : xK0.getD 47 [] = k47 := rfl
set_option maxRecDepth 100000 in
theorem ia47 : (k47.all fun e => decide (k47.lookup e.1 = some e.2)) = true := by decide +kernel
theorem i47_0 {xs : List Int32} : xtI (xTa xs) 47 0 = some (.aload_n 2, 1) := x_ins (j := 0) kk47 ia47 rfl
theorem i47_1 {xs : List Int32} : xtI (xTa xs) 47 1 = some (.iconst 3, 1) := x_ins (j := 1) kk47 ia47 rfl
theorem i47_2 {xs : List Int32} : xtI (xTa xs) 47 2 = some (.invokevirtual 106, 3) := x_ins (j := 2) kk47 ia47 rfl
theorem i47_5 {xs : List Int32} : xtI (xTa xs) 47 5 = some (.astore_n 3, 1) := x_ins (j := 3) kk47 ia47 rfl
theorem i47_6 {xs : List Int32} : xtI (xTa xs) 47 6 = some (.aload_n 3, 1) := x_ins (j := 4) kk47 ia47 rfl
theorem i47_7 {xs : List Int32} : xtI (xTa xs) 47 7 = some (.ifnull 19, 3) := x_ins (j := 5) kk47 ia47 rfl
theorem i47_10 {xs : List Int32} : xtI (xTa xs) 47 10 = some (.aload_n 1, 1) := x_ins (j := 6) kk47 ia47 rfl
theorem i47_11 {xs : List Int32} : xtI (xTa xs) 47 11 = some (.getfield 124, 3) := x_ins (j := 7) kk47 ia47 rfl
theorem i47_14 {xs : List Int32} : xtI (xTa xs) 47 14 = some (.ifCond .ne 12, 3) := x_ins (j := 8) kk47 ia47 rfl
theorem i47_17 {xs : List Int32} : xtI (xTa xs) 47 17 = some (.aload_n 0, 1) := x_ins (j := 9) kk47 ia47 rfl
theorem i47_18 {xs : List Int32} : xtI (xTa xs) 47 18 = some (.iconst 5, 1) := x_ins (j := 10) kk47 ia47 rfl
theorem i47_19 {xs : List Int32} : xtI (xTa xs) 47 19 = some (.aload_n 3, 1) := x_ins (j := 11) kk47 ia47 rfl
theorem i47_20 {xs : List Int32} : xtI (xTa xs) 47 20 = some (.getfield 86, 3) := x_ins (j := 12) kk47 ia47 rfl
theorem i47_23 {xs : List Int32} : xtI (xTa xs) 47 23 = some (.invokevirtual 28, 3) := x_ins (j := 13) kk47 ia47 rfl
theorem i47_26 {xs : List Int32} : xtI (xTa xs) 47 26 = some (.return_, 1) := x_ins (j := 14) kk47 ia47 rfl
theorem kk48 : xK0.getD 48 [] = k48 := rfl
set_option maxRecDepth 100000 in
theorem ia48 : (k48.all fun e => decide (k48.lookup e.1 = some e.2)) = true := by decide +kernel
theorem i48_0 {xs : List Int32} : xtI (xTa xs) 48 0 = some (.iconst 0, 1) := x_ins (j := 0) kk48 ia48 rfl
theorem i48_1 {xs : List Int32} : xtI (xTa xs) 48 1 = some (.istore_n 3, 1) := x_ins (j := 1) kk48 ia48 rfl
theorem i48_2 {xs : List Int32} : xtI (xTa xs) 48 2 = some (.iload_n 3, 1) := x_ins (j := 2) kk48 ia48 rfl
theorem i48_3 {xs : List Int32} : xtI (xTa xs) 48 3 = some (.aload_n 2, 1) := x_ins (j := 3) kk48 ia48 rfl
theorem i48_4 {xs : List Int32} : xtI (xTa xs) 48 4 = some (.getfield 128, 3) := x_ins (j := 4) kk48 ia48 rfl
theorem i48_7 {xs : List Int32} : xtI (xTa xs) 48 7 = some (.if_icmp .ge 38, 3) := x_ins (j := 5) kk48 ia48 rfl
theorem i48_10 {xs : List Int32} : xtI (xTa xs) 48 10 = some (.aload_n 2, 1) := x_ins (j := 6) kk48 ia48 rfl
theorem i48_11 {xs : List Int32} : xtI (xTa xs) 48 11 = some (.iload_n 3, 1) := x_ins (j := 7) kk48 ia48 rfl
theorem i48_12 {xs : List Int32} : xtI (xTa xs) 48 12 = some (.invokevirtual 131, 3) := x_ins (j := 8) kk48 ia48 rfl
theorem i48_15 {xs : List Int32} : xtI (xTa xs) 48 15 = some (.astore 4, 2) := x_ins (j := 9) kk48 ia48 rfl
theorem i48_17 {xs : List Int32} : xtI (xTa xs) 48 17 = some (.aload 4, 2) := x_ins (j := 10) kk48 ia48 rfl
theorem i48_19 {xs : List Int32} : xtI (xTa xs) 48 19 = some (.ifnull 20, 3) := x_ins (j := 11) kk48 ia48 rfl
theorem i48_22 {xs : List Int32} : xtI (xTa xs) 48 22 = some (.aload_n 1, 1) := x_ins (j := 12) kk48 ia48 rfl
theorem i48_23 {xs : List Int32} : xtI (xTa xs) 48 23 = some (.aload_n 2, 1) := x_ins (j := 13) kk48 ia48 rfl
theorem i48_24 {xs : List Int32} : xtI (xTa xs) 48 24 = some (.aload 4, 2) := x_ins (j := 14) kk48 ia48 rfl
theorem i48_26 {xs : List Int32} : xtI (xTa xs) 48 26 = some (.invokestatic 135, 3) := x_ins (j := 15) kk48 ia48 rfl
theorem i48_29 {xs : List Int32} : xtI (xTa xs) 48 29 = some (.ifCond .ne 10, 3) := x_ins (j := 16) kk48 ia48 rfl
theorem i48_32 {xs : List Int32} : xtI (xTa xs) 48 32 = some (.aload_n 0, 1) := x_ins (j := 17) kk48 ia48 rfl
theorem i48_33 {xs : List Int32} : xtI (xTa xs) 48 33 = some (.bipush 6, 2) := x_ins (j := 18) kk48 ia48 rfl
theorem i48_35 {xs : List Int32} : xtI (xTa xs) 48 35 = some (.iload_n 3, 1) := x_ins (j := 19) kk48 ia48 rfl
theorem i48_36 {xs : List Int32} : xtI (xTa xs) 48 36 = some (.invokevirtual 28, 3) := x_ins (j := 20) kk48 ia48 rfl
theorem i48_39 {xs : List Int32} : xtI (xTa xs) 48 39 = some (.iinc 3 1, 3) := x_ins (j := 21) kk48 ia48 rfl
theorem i48_42 {xs : List Int32} : xtI (xTa xs) 48 42 = some (.goto (-40), 3) := x_ins (j := 22) kk48 ia48 rfl
theorem i48_45 {xs : List Int32} : xtI (xTa xs) 48 45 = some (.aload_n 2, 1) := x_ins (j := 23) kk48 ia48 rfl
theorem i48_46 {xs : List Int32} : xtI (xTa xs) 48 46 = some (.getfield 124, 3) := x_ins (j := 24) kk48 ia48 rfl
theorem i48_49 {xs : List Int32} : xtI (xTa xs) 48 49 = some (.ifCond .eq 19, 3) := x_ins (j := 25) kk48 ia48 rfl
theorem i48_52 {xs : List Int32} : xtI (xTa xs) 48 52 = some (.aload_n 1, 1) := x_ins (j := 26) kk48 ia48 rfl
theorem i48_53 {xs : List Int32} : xtI (xTa xs) 48 53 = some (.aload_n 2, 1) := x_ins (j := 27) kk48 ia48 rfl
theorem i48_54 {xs : List Int32} : xtI (xTa xs) 48 54 = some (.aconst_null, 1) := x_ins (j := 28) kk48 ia48 rfl
theorem i48_55 {xs : List Int32} : xtI (xTa xs) 48 55 = some (.invokestatic 135, 3) := x_ins (j := 29) kk48 ia48 rfl
theorem i48_58 {xs : List Int32} : xtI (xTa xs) 48 58 = some (.ifCond .ne 10, 3) := x_ins (j := 30) kk48 ia48 rfl
theorem i48_61 {xs : List Int32} : xtI (xTa xs) 48 61 = some (.aload_n 0, 1) := x_ins (j := 31) kk48 ia48 rfl
theorem i48_62 {xs : List Int32} : xtI (xTa xs) 48 62 = some (.bipush 7, 2) := x_ins (j := 32) kk48 ia48 rfl
theorem i48_64 {xs : List Int32} : xtI (xTa xs) 48 64 = some (.iconst 0, 1) := x_ins (j := 33) kk48 ia48 rfl
theorem i48_65 {xs : List Int32} : xtI (xTa xs) 48 65 = some (.invokevirtual 28, 3) := x_ins (j := 34) kk48 ia48 rfl
theorem i48_68 {xs : List Int32} : xtI (xTa xs) 48 68 = some (.return_, 1) := x_ins (j := 35) kk48 ia48 rfl
