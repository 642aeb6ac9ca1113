section PNUM
theorem sLd_n {S : mS} {k i N : Nat} (h : i < N) (hN : N = mSz.getD k 0 ∧ N < 2 ^ 31) : sLd S k (nI i) = some (S.2 k i) := by
  unfold sLd
  rw [← hN.1, if_pos (xout_nI h hN.2), nI_clamp (by omega)]
theorem sSt_n {S : mS} {k i N : Nat} {v : Int32} (h : i < N) (hN : N = mSz.getD k 0 ∧ N < 2 ^ 31) : sSt S k (nI i) v = some (sSet S k i v) := by
  unfold sSt
  rw [← hN.1, if_pos (xout_nI h hN.2), nI_clamp (by omega)]
theorem lt_2 : (2 : Int32) = nI 2 := rfl
theorem lt_3 : (3 : Int32) = nI 3 := rfl
theorem lt_4 : (4 : Int32) = nI 4 := rfl
theorem lt_5 : (5 : Int32) = nI 5 := rfl
theorem lt_6 : (6 : Int32) = nI 6 := rfl
theorem lt_7 : (7 : Int32) = nI 7 := rfl
theorem lt_8 : (8 : Int32) = nI 8 := rfl
theorem lt_9 : (9 : Int32) = nI 9 := rfl
theorem lt_10 : (10 : Int32) = nI 10 := rfl
theorem lt_12 : (12 : Int32) = nI 12 := rfl
theorem lt_13 : (13 : Int32) = nI 13 := rfl
theorem lt_14 : (14 : Int32) = nI 14 := rfl
theorem lt_15 : (15 : Int32) = nI 15 := rfl
theorem lt_16 : (16 : Int32) = nI 16 := rfl
theorem lt_20 : (20 : Int32) = nI 20 := rfl
theorem lt_24 : (24 : Int32) = nI 24 := rfl
theorem lt_25 : (25 : Int32) = nI 25 := rfl
theorem lt_32 : (32 : Int32) = nI 32 := rfl
theorem lt_39 : (39 : Int32) = nI 39 := rfl
theorem lt_40 : (40 : Int32) = nI 40 := rfl
theorem lt_41 : (41 : Int32) = nI 41 := rfl
theorem lt_45 : (45 : Int32) = nI 45 := rfl
theorem lt_46 : (46 : Int32) = nI 46 := rfl
theorem lt_48 : (48 : Int32) = nI 48 := rfl
theorem lt_57 : (57 : Int32) = nI 57 := rfl
theorem lt_60 : (60 : Int32) = nI 60 := rfl
theorem lt_63 : (63 : Int32) = nI 63 := rfl
theorem lt_64 : (64 : Int32) = nI 64 := rfl
theorem lt_65 : (65 : Int32) = nI 65 := rfl
theorem lt_90 : (90 : Int32) = nI 90 := rfl
theorem lt_91 : (91 : Int32) = nI 91 := rfl
theorem lt_93 : (93 : Int32) = nI 93 := rfl
theorem lt_97 : (97 : Int32) = nI 97 := rfl
theorem lt_120 : (120 : Int32) = nI 120 := rfl
theorem lt_121 : (121 : Int32) = nI 121 := rfl
theorem lt_122 : (122 : Int32) = nI 122 := rfl
theorem lt_123 : (123 : Int32) = nI 123 := rfl
theorem lt_125 : (125 : Int32) = nI 125 := rfl
theorem lt_126 : (126 : Int32) = nI 126 := rfl
theorem lt_130 : (130 : Int32) = nI 130 := rfl
theorem lt_600 : (600 : Int32) = nI 600 := rfl
theorem lt_960 : (960 : Int32) = nI 960 := rfl
theorem lt_999 : (999 : Int32) = nI 999 := rfl
theorem lt_1000 : (1000 : Int32) = nI 1000 := rfl
theorem lt_1091 : (1091 : Int32) = nI 1091 := rfl
theorem lt_1200 : (1200 : Int32) = nI 1200 := rfl
theorem lt_3000 : (3000 : Int32) = nI 3000 := rfl
theorem lt_4000 : (4000 : Int32) = nI 4000 := rfl
theorem lt_4001 : (4001 : Int32) = nI 4001 := rfl
theorem lt_4002 : (4002 : Int32) = nI 4002 := rfl
theorem lt_4800 : (4800 : Int32) = nI 4800 := rfl
theorem lt_24000 : (24000 : Int32) = nI 24000 := rfl
theorem ld_0 {S : mS} {i : Nat} (h : i < 600) : sLd S 0 (nI i) = some (S.2 0 i) := sLd_n (k := 0) h (by decide)
theorem st_0 {S : mS} {i : Nat} {v : Int32} (h : i < 600) : sSt S 0 (nI i) v = some (sSet S 0 i v) := sSt_n (k := 0) h (by decide)
theorem ld_3 {S : mS} {i : Nat} (h : i < 40) : sLd S 3 (nI i) = some (S.2 3 i) := sLd_n (k := 3) h (by decide)
theorem st_3 {S : mS} {i : Nat} {v : Int32} (h : i < 40) : sSt S 3 (nI i) v = some (sSet S 3 i v) := sSt_n (k := 3) h (by decide)
theorem ld_4 {S : mS} {i : Nat} (h : i < 40) : sLd S 4 (nI i) = some (S.2 4 i) := sLd_n (k := 4) h (by decide)
theorem st_4 {S : mS} {i : Nat} {v : Int32} (h : i < 40) : sSt S 4 (nI i) v = some (sSet S 4 i v) := sSt_n (k := 4) h (by decide)
theorem ld_5 {S : mS} {i : Nat} (h : i < 40) : sLd S 5 (nI i) = some (S.2 5 i) := sLd_n (k := 5) h (by decide)
theorem st_5 {S : mS} {i : Nat} {v : Int32} (h : i < 40) : sSt S 5 (nI i) v = some (sSet S 5 i v) := sSt_n (k := 5) h (by decide)
theorem ld_6 {S : mS} {i : Nat} (h : i < 40) : sLd S 6 (nI i) = some (S.2 6 i) := sLd_n (k := 6) h (by decide)
theorem st_6 {S : mS} {i : Nat} {v : Int32} (h : i < 40) : sSt S 6 (nI i) v = some (sSet S 6 i v) := sSt_n (k := 6) h (by decide)
theorem ld_7 {S : mS} {i : Nat} (h : i < 400) : sLd S 7 (nI i) = some (S.2 7 i) := sLd_n (k := 7) h (by decide)
theorem st_7 {S : mS} {i : Nat} {v : Int32} (h : i < 400) : sSt S 7 (nI i) v = some (sSet S 7 i v) := sSt_n (k := 7) h (by decide)
theorem ld_8 {S : mS} {i : Nat} (h : i < 40) : sLd S 8 (nI i) = some (S.2 8 i) := sLd_n (k := 8) h (by decide)
theorem st_8 {S : mS} {i : Nat} {v : Int32} (h : i < 40) : sSt S 8 (nI i) v = some (sSet S 8 i v) := sSt_n (k := 8) h (by decide)
theorem ld_9 {S : mS} {i : Nat} (h : i < 40) : sLd S 9 (nI i) = some (S.2 9 i) := sLd_n (k := 9) h (by decide)
theorem st_9 {S : mS} {i : Nat} {v : Int32} (h : i < 40) : sSt S 9 (nI i) v = some (sSet S 9 i v) := sSt_n (k := 9) h (by decide)
theorem ld_10 {S : mS} {i : Nat} (h : i < 1600) : sLd S 10 (nI i) = some (S.2 10 i) := sLd_n (k := 10) h (by decide)
theorem st_10 {S : mS} {i : Nat} {v : Int32} (h : i < 1600) : sSt S 10 (nI i) v = some (sSet S 10 i v) := sSt_n (k := 10) h (by decide)
theorem ld_11 {S : mS} {i : Nat} (h : i < 160) : sLd S 11 (nI i) = some (S.2 11 i) := sLd_n (k := 11) h (by decide)
theorem st_11 {S : mS} {i : Nat} {v : Int32} (h : i < 160) : sSt S 11 (nI i) v = some (sSet S 11 i v) := sSt_n (k := 11) h (by decide)
theorem ld_12 {S : mS} {i : Nat} (h : i < 24600) : sLd S 12 (nI i) = some (S.2 12 i) := sLd_n (k := 12) h (by decide)
theorem st_12 {S : mS} {i : Nat} {v : Int32} (h : i < 24600) : sSt S 12 (nI i) v = some (sSet S 12 i v) := sSt_n (k := 12) h (by decide)
theorem ld_13 {S : mS} {i : Nat} (h : i < 41) : sLd S 13 (nI i) = some (S.2 13 i) := sLd_n (k := 13) h (by decide)
theorem st_13 {S : mS} {i : Nat} {v : Int32} (h : i < 41) : sSt S 13 (nI i) v = some (sSet S 13 i v) := sSt_n (k := 13) h (by decide)
theorem ld_14 {S : mS} {i : Nat} (h : i < 41) : sLd S 14 (nI i) = some (S.2 14 i) := sLd_n (k := 14) h (by decide)
theorem st_14 {S : mS} {i : Nat} {v : Int32} (h : i < 41) : sSt S 14 (nI i) v = some (sSet S 14 i v) := sSt_n (k := 14) h (by decide)
theorem ld_15 {S : mS} {i : Nat} (h : i < 41) : sLd S 15 (nI i) = some (S.2 15 i) := sLd_n (k := 15) h (by decide)
theorem st_15 {S : mS} {i : Nat} {v : Int32} (h : i < 41) : sSt S 15 (nI i) v = some (sSet S 15 i v) := sSt_n (k := 15) h (by decide)
theorem ld_16 {S : mS} {i : Nat} (h : i < 984) : sLd S 16 (nI i) = some (S.2 16 i) := sLd_n (k := 16) h (by decide)
theorem st_16 {S : mS} {i : Nat} {v : Int32} (h : i < 984) : sSt S 16 (nI i) v = some (sSet S 16 i v) := sSt_n (k := 16) h (by decide)
theorem ld_17 {S : mS} {i : Nat} (h : i < 984) : sLd S 17 (nI i) = some (S.2 17 i) := sLd_n (k := 17) h (by decide)
theorem st_17 {S : mS} {i : Nat} {v : Int32} (h : i < 984) : sSt S 17 (nI i) v = some (sSet S 17 i v) := sSt_n (k := 17) h (by decide)
theorem ld_18 {S : mS} {i : Nat} (h : i < 984) : sLd S 18 (nI i) = some (S.2 18 i) := sLd_n (k := 18) h (by decide)
theorem st_18 {S : mS} {i : Nat} {v : Int32} (h : i < 984) : sSt S 18 (nI i) v = some (sSet S 18 i v) := sSt_n (k := 18) h (by decide)
theorem ld_19 {S : mS} {i : Nat} (h : i < 984) : sLd S 19 (nI i) = some (S.2 19 i) := sLd_n (k := 19) h (by decide)
theorem st_19 {S : mS} {i : Nat} {v : Int32} (h : i < 984) : sSt S 19 (nI i) v = some (sSet S 19 i v) := sSt_n (k := 19) h (by decide)
theorem ld_20 {S : mS} {i : Nat} (h : i < 984) : sLd S 20 (nI i) = some (S.2 20 i) := sLd_n (k := 20) h (by decide)
theorem st_20 {S : mS} {i : Nat} {v : Int32} (h : i < 984) : sSt S 20 (nI i) v = some (sSet S 20 i v) := sSt_n (k := 20) h (by decide)
theorem ld_21 {S : mS} {i : Nat} (h : i < 984) : sLd S 21 (nI i) = some (S.2 21 i) := sLd_n (k := 21) h (by decide)
theorem st_21 {S : mS} {i : Nat} {v : Int32} (h : i < 984) : sSt S 21 (nI i) v = some (sSet S 21 i v) := sSt_n (k := 21) h (by decide)
theorem ld_22 {S : mS} {i : Nat} (h : i < 984) : sLd S 22 (nI i) = some (S.2 22 i) := sLd_n (k := 22) h (by decide)
theorem st_22 {S : mS} {i : Nat} {v : Int32} (h : i < 984) : sSt S 22 (nI i) v = some (sSet S 22 i v) := sSt_n (k := 22) h (by decide)
theorem ld_23 {S : mS} {i : Nat} (h : i < 984) : sLd S 23 (nI i) = some (S.2 23 i) := sLd_n (k := 23) h (by decide)
theorem st_23 {S : mS} {i : Nat} {v : Int32} (h : i < 984) : sSt S 23 (nI i) v = some (sSet S 23 i v) := sSt_n (k := 23) h (by decide)
theorem ld_24 {S : mS} {i : Nat} (h : i < 4920) : sLd S 24 (nI i) = some (S.2 24 i) := sLd_n (k := 24) h (by decide)
theorem st_24 {S : mS} {i : Nat} {v : Int32} (h : i < 4920) : sSt S 24 (nI i) v = some (sSet S 24 i v) := sSt_n (k := 24) h (by decide)
theorem ld_25 {S : mS} {i : Nat} (h : i < 4920) : sLd S 25 (nI i) = some (S.2 25 i) := sLd_n (k := 25) h (by decide)
theorem st_25 {S : mS} {i : Nat} {v : Int32} (h : i < 4920) : sSt S 25 (nI i) v = some (sSet S 25 i v) := sSt_n (k := 25) h (by decide)
theorem ld_26 {S : mS} {i : Nat} (h : i < 4920) : sLd S 26 (nI i) = some (S.2 26 i) := sLd_n (k := 26) h (by decide)
theorem st_26 {S : mS} {i : Nat} {v : Int32} (h : i < 4920) : sSt S 26 (nI i) v = some (sSet S 26 i v) := sSt_n (k := 26) h (by decide)
theorem ld_27 {S : mS} {i : Nat} (h : i < 4920) : sLd S 27 (nI i) = some (S.2 27 i) := sLd_n (k := 27) h (by decide)
theorem st_27 {S : mS} {i : Nat} {v : Int32} (h : i < 4920) : sSt S 27 (nI i) v = some (sSet S 27 i v) := sSt_n (k := 27) h (by decide)
theorem ld_28 {S : mS} {i : Nat} (h : i < 4920) : sLd S 28 (nI i) = some (S.2 28 i) := sLd_n (k := 28) h (by decide)
theorem st_28 {S : mS} {i : Nat} {v : Int32} (h : i < 4920) : sSt S 28 (nI i) v = some (sSet S 28 i v) := sSt_n (k := 28) h (by decide)
theorem ld_29 {S : mS} {i : Nat} (h : i < 4920) : sLd S 29 (nI i) = some (S.2 29 i) := sLd_n (k := 29) h (by decide)
theorem st_29 {S : mS} {i : Nat} {v : Int32} (h : i < 4920) : sSt S 29 (nI i) v = some (sSet S 29 i v) := sSt_n (k := 29) h (by decide)
theorem ld_30 {S : mS} {i : Nat} (h : i < 4920) : sLd S 30 (nI i) = some (S.2 30 i) := sLd_n (k := 30) h (by decide)
theorem st_30 {S : mS} {i : Nat} {v : Int32} (h : i < 4920) : sSt S 30 (nI i) v = some (sSet S 30 i v) := sSt_n (k := 30) h (by decide)
theorem ld_44 {S : mS} {i : Nat} (h : i < 4000) : sLd S 44 (nI i) = some (S.2 44 i) := sLd_n (k := 44) h (by decide)
theorem st_44 {S : mS} {i : Nat} {v : Int32} (h : i < 4000) : sSt S 44 (nI i) v = some (sSet S 44 i v) := sSt_n (k := 44) h (by decide)
theorem ld_46 {S : mS} {i : Nat} (h : i < 4001) : sLd S 46 (nI i) = some (S.2 46 i) := sLd_n (k := 46) h (by decide)
theorem st_46 {S : mS} {i : Nat} {v : Int32} (h : i < 4001) : sSt S 46 (nI i) v = some (sSet S 46 i v) := sSt_n (k := 46) h (by decide)
theorem ld_50 {S : mS} {i : Nat} (h : i < 40) : sLd S 50 (nI i) = some (S.2 50 i) := sLd_n (k := 50) h (by decide)
theorem st_50 {S : mS} {i : Nat} {v : Int32} (h : i < 40) : sSt S 50 (nI i) v = some (sSet S 50 i v) := sSt_n (k := 50) h (by decide)
theorem ld_52 {S : mS} {i : Nat} (h : i < 4000) : sLd S 52 (nI i) = some (S.2 52 i) := sLd_n (k := 52) h (by decide)
theorem st_52 {S : mS} {i : Nat} {v : Int32} (h : i < 4000) : sSt S 52 (nI i) v = some (sSet S 52 i v) := sSt_n (k := 52) h (by decide)
theorem ld_54 {S : mS} {i : Nat} (h : i < 4001) : sLd S 54 (nI i) = some (S.2 54 i) := sLd_n (k := 54) h (by decide)
theorem st_54 {S : mS} {i : Nat} {v : Int32} (h : i < 4001) : sSt S 54 (nI i) v = some (sSet S 54 i v) := sSt_n (k := 54) h (by decide)
theorem ld_58 {S : mS} {i : Nat} (h : i < 40) : sLd S 58 (nI i) = some (S.2 58 i) := sLd_n (k := 58) h (by decide)
theorem st_58 {S : mS} {i : Nat} {v : Int32} (h : i < 40) : sSt S 58 (nI i) v = some (sSet S 58 i v) := sSt_n (k := 58) h (by decide)
theorem ld_60 {S : mS} {i : Nat} (h : i < 3000) : sLd S 60 (nI i) = some (S.2 60 i) := sLd_n (k := 60) h (by decide)
theorem st_60 {S : mS} {i : Nat} {v : Int32} (h : i < 3000) : sSt S 60 (nI i) v = some (sSet S 60 i v) := sSt_n (k := 60) h (by decide)
theorem ld_62 {S : mS} {i : Nat} (h : i < 130) : sLd S 62 (nI i) = some (S.2 62 i) := sLd_n (k := 62) h (by decide)
theorem st_62 {S : mS} {i : Nat} {v : Int32} (h : i < 130) : sSt S 62 (nI i) v = some (sSet S 62 i v) := sSt_n (k := 62) h (by decide)
theorem ld_64 {S : mS} {i : Nat} (h : i < 130) : sLd S 64 (nI i) = some (S.2 64 i) := sLd_n (k := 64) h (by decide)
theorem st_64 {S : mS} {i : Nat} {v : Int32} (h : i < 130) : sSt S 64 (nI i) v = some (sSet S 64 i v) := sSt_n (k := 64) h (by decide)
theorem ld_65 {S : mS} {i : Nat} (h : i < 131) : sLd S 65 (nI i) = some (S.2 65 i) := sLd_n (k := 65) h (by decide)
theorem st_65 {S : mS} {i : Nat} {v : Int32} (h : i < 131) : sSt S 65 (nI i) v = some (sSet S 65 i v) := sSt_n (k := 65) h (by decide)
theorem ld_66 {S : mS} {i : Nat} (h : i < 1000) : sLd S 66 (nI i) = some (S.2 66 i) := sLd_n (k := 66) h (by decide)
theorem st_66 {S : mS} {i : Nat} {v : Int32} (h : i < 1000) : sSt S 66 (nI i) v = some (sSet S 66 i v) := sSt_n (k := 66) h (by decide)
theorem ld_67 {S : mS} {i : Nat} (h : i < 1000) : sLd S 67 (nI i) = some (S.2 67 i) := sLd_n (k := 67) h (by decide)
theorem st_67 {S : mS} {i : Nat} {v : Int32} (h : i < 1000) : sSt S 67 (nI i) v = some (sSet S 67 i v) := sSt_n (k := 67) h (by decide)
theorem ld_69 {S : mS} {i : Nat} (h : i < 42) : sLd S 69 (nI i) = some (S.2 69 i) := sLd_n (k := 69) h (by decide)
theorem st_69 {S : mS} {i : Nat} {v : Int32} (h : i < 42) : sSt S 69 (nI i) v = some (sSet S 69 i v) := sSt_n (k := 69) h (by decide)
theorem ld_70 {S : mS} {i : Nat} (h : i < 42) : sLd S 70 (nI i) = some (S.2 70 i) := sLd_n (k := 70) h (by decide)
theorem st_70 {S : mS} {i : Nat} {v : Int32} (h : i < 42) : sSt S 70 (nI i) v = some (sSet S 70 i v) := sSt_n (k := 70) h (by decide)
theorem ld_71 {S : mS} {i : Nat} (h : i < 200) : sLd S 71 (nI i) = some (S.2 71 i) := sLd_n (k := 71) h (by decide)
theorem st_71 {S : mS} {i : Nat} {v : Int32} (h : i < 200) : sSt S 71 (nI i) v = some (sSet S 71 i v) := sSt_n (k := 71) h (by decide)
theorem ld_72 {S : mS} {i : Nat} (h : i < 200) : sLd S 72 (nI i) = some (S.2 72 i) := sLd_n (k := 72) h (by decide)
theorem st_72 {S : mS} {i : Nat} {v : Int32} (h : i < 200) : sSt S 72 (nI i) v = some (sSet S 72 i v) := sSt_n (k := 72) h (by decide)
def bZ (b : Bool) : Int32 := if b = true then 1 else 0
theorem bZ_0 {b : Bool} : (bZ b = 0) = (b = false) := by cases b <;> simp [bZ]
theorem bZ_a {b : Bool} : (bZ b &&& 1 = bZ b) = True := by cases b <;> simp [bZ]
theorem bZ_p {b : Bool} : bZ b &&& 1 = bZ b := by cases b <;> decide
theorem bZ_t : bZ true = 1 := rfl
theorem bZ_f : bZ false = 0 := rfl
theorem bZ_n {b : Bool} : vp_nar .boolean (bZ b) = bZ b := by cases b <;> decide
theorem bZ_eq {b c : Bool} : (bZ b = bZ c) = (b = c) := by cases b <;> cases c <;> simp [bZ]
theorem nI_m1 {a : Nat} (h : a < 2 ^ 31) : (nI a = -1) = False := by
  refine eq_false fun h9 => ?_
  have h8 := congrArg Int32.toInt h9
  rw [nI_toInt h] at h8
  have h7 : (-1 : Int32).toInt = -1 := by decide
  omega
theorem nI_nm {a : Nat} (h : a < 2 ^ 31) : ¬ nI a = -1 := by rw [nI_m1 h]; exact id
theorem m1_nI {a : Nat} (h : a < 2 ^ 31) : (-1 = nI a) = False := eq_false fun h9 => by have := nI_m1 h; rw [← h9] at this; simp at this
theorem nI_neg {a : Nat} (h : a < 2 ^ 31) : (nI a < 0) = False := eq_false (nI_pos h)
theorem nI_z {a : Nat} (h : a < 2 ^ 31) : (nI a = 0) = (a = 0) := propext (nI_eq (b := 0) h (by decide))
theorem nI_o {a : Nat} (h : a < 2 ^ 31) : (nI a = 1) = (a = 1) := propext (nI_eq (b := 1) h (by decide))
theorem nI_z1 {a : Nat} (h : a < 2 ^ 31) : (nI a ≤ 0) = (a = 0) := propext ((nI_leI (b := 0) h (by decide)).trans (by omega))
theorem sP1 {S : mS} {k j : Nat} {v : Int32} : (sPut S k v).1 j = if j = k then v else S.1 j := rfl
theorem sP2 {S : mS} {k : Nat} {v : Int32} : (sPut S k v).2 = S.2 := rfl
theorem sS1 {S : mS} {k i : Nat} {v : Int32} : (sSet S k i v).1 = S.1 := rfl
theorem sS2 {S : mS} {k i j n : Nat} {v : Int32} : (sSet S k i v).2 j n = if j = k ∧ n = i then v else S.2 j n := rfl
theorem tx_out {bs : List Nat} {i : Nat} (h : bs.length ≤ i) : tx bs i = 999 := by simp [tx, List.getD_eq_getElem?_getD, List.getElem?_eq_none h]
theorem isB_f {c : Nat} (h : 256 ≤ c) : isBg c = false ∧ isSm c = false ∧ isFg c = false ∧ isNB c = false := by
  have h1 : isBg c = false := by simp [isBg]; omega
  have h2 : isSm c = false := by simp [isSm]; omega
  have h3 : isFg c = false := by simp [isFg]; omega
  exact ⟨h1, h2, h3, by simp [isNB, h1, h2, h3]⟩
/-- of a number that may be anything -/
theorem in_g (v lo hi : Int32) {α : Type} (x y : α) : (if v < lo then x else if hi < v then x else y) = if lo ≤ v ∧ v ≤ hi then y else x := by
  by_cases h1 : v < lo
  · rw [if_pos h1, if_neg fun h9 => absurd h1 (Int32.not_lt.mpr h9.1)]
  · rw [if_neg h1]
    by_cases h2 : hi < v
    · rw [if_pos h2, if_neg fun h9 => absurd h2 (Int32.not_lt.mpr h9.2)]
    · rw [if_neg h2, if_pos ⟨Int32.not_lt.mp h1, Int32.not_lt.mp h2⟩]
theorem bI_in {c lo hi : Nat} (hl : lo < 2 ^ 31) (h : hi < 256) : (nI lo ≤ bI c ∧ bI c ≤ nI hi) ↔ lo ≤ c ∧ c ≤ hi := by
  have e := bI_toInt (c := c)
  have e2 := nI_toInt (n := hi) (by omega)
  have e1 := nI_toInt (n := lo) hl
  rw [Int32.le_iff_toInt_le, Int32.le_iff_toInt_le, e, e1, e2]
  split <;> omega
end PNUM
