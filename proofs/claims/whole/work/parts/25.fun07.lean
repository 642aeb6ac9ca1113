section
def j79_145  (o0 : Option Nat) (x1 : Int32) (x2 : Int32) (x3 : Int32) (x4 : Int32) (x5 : Int32) (x6 : Int32) (x7 : Int32) (o8 : Option Nat) (h : xH) : Option (Option Nat × xH) := some (o8, h)
theorem j79_145_ok {xs : List Int32} {d : Nat} (hd : 4 ≤ d) {o0 : Option Nat} {x1 : Int32} {x2 : Int32} {x3 : Int32} {x4 : Int32} {x5 : Int32} {x6 : Int32} {x7 : Int32} {o8 : Option Nat} {h : xH} {r : (Option Nat × xH)} (hf : j79_145 o0 x1 x2 x3 x4 x5 x6 x7 o8 h = some r) : xEv (xTa xs) d 79 (145, [xrv o0, .int x1, .int x2, .int x3, .int x4, .int x5, .int x6, .int x7, xrv o8], [], h) (some (xrv r.1), r.2) := by
  unfold j79_145 at hf
  refine sh_aload (i' := 8) (n := 2) i79_145 (Or.inl rfl) rfl ?_
  obtain rfl := Option.some.inj hf
  exact sh_aret i79_147 m79 rfl
def j79_142  (o0 : Option Nat) (x1 : Int32) (x2 : Int32) (x3 : Int32) (x4 : Int32) (x5 : Int32) (x6 : Int32) (x7 : Int32) (o8 : Option Nat) (s0 : Option Nat) (s1 : Int32) (h : xH) : Option (Option Nat × xH) := (xpF h s0 6 2 .int (.int s1)).bind fun h_1 => j79_145 o0 x1 x2 x3 x4 x5 x6 x7 o8 h_1
theorem j79_142_ok {xs : List Int32} {d : Nat} (hd : 4 ≤ d) {o0 : Option Nat} {x1 : Int32} {x2 : Int32} {x3 : Int32} {x4 : Int32} {x5 : Int32} {x6 : Int32} {x7 : Int32} {o8 : Option Nat} {s0 : Option Nat} {s1 : Int32} {h : xH} {r : (Option Nat × xH)} (hf : j79_142 o0 x1 x2 x3 x4 x5 x6 x7 o8 s0 s1 h = some r) : xEv (xTa xs) d 79 (142, [xrv o0, .int x1, .int x2, .int x3, .int x4, .int x5, .int x6, .int x7, xrv o8], [.int s1, xrv s0], h) (some (xrv r.1), r.2) := by
  unfold j79_142 at hf
  obtain ⟨h_1, eh_1, hf⟩ := x_bind hf
  refine sh_put i79_142 f79_228 (by decide) rfl eh_1 ?_
  exact j79_145_ok hd hf
def j79_90  (o0 : Option Nat) (x1 : Int32) (x2 : Int32) (x3 : Int32) (x4 : Int32) (x5 : Int32) (x6 : Int32) (s0 : Int32) (h : xH) : Option (Option Nat × xH) := (xcv h o0 7).bind fun _ => (fn77 o0 x1 x4 s0 h).bind fun r_1 => (if r_1.1 = none then j79_145 o0 x1 x2 x3 x4 x5 x6 s0 r_1.1 r_1.2 else (xpF r_1.2 r_1.1 6 0 .int (.int 2)).bind fun h_3 => (xpF h_3 r_1.1 6 4 .int (.int x3)).bind fun h_4 => (xpF h_4 r_1.1 6 5 .int (.int x5)).bind fun h_5 => (if x5 = x4 then j79_142 o0 x1 x2 x3 x4 x5 x6 s0 r_1.1 r_1.1 x3 h_5 else j79_142 o0 x1 x2 x3 x4 x5 x6 s0 r_1.1 r_1.1 x6 h_5))
theorem j79_90_ok {xs : List Int32} {d : Nat} (hd : 4 ≤ d) {u7 : Value} {u8 : Value} {o0 : Option Nat} {x1 : Int32} {x2 : Int32} {x3 : Int32} {x4 : Int32} {x5 : Int32} {x6 : Int32} {s0 : Int32} {h : xH} {r : (Option Nat × xH)} (hu7 : u7.category = 1) (hu8 : u8.category = 1) (hf : j79_90 o0 x1 x2 x3 x4 x5 x6 s0 h = some r) : xEv (xTa xs) d 79 (90, [xrv o0, .int x1, .int x2, .int x3, .int x4, .int x5, .int x6, u7, u8], [.int s0], h) (some (xrv r.1), r.2) := by
  unfold j79_90 at hf
  refine sh_istore (i' := 7) (n := 2) i79_90 (Or.inl rfl) (xokst_of (Nat.le_of_ble_eq_true rfl) rfl) ?_
  refine sh_aload (i' := 0) (n := 1) i79_92 (Or.inr ⟨rfl, by decide⟩) rfl ?_
  refine ev_do i79_93 rfl ?_
  refine ev_do i79_94 rfl ?_
  refine ev_do i79_96 rfl ?_
  obtain ⟨_, eu_7, hf⟩ := x_bind hf
  obtain ⟨r_1, er_1, hf⟩ := x_bind hf
  refine sh_inv (as := [.int s0, .int x4, .int x1]) (z := (some (xrv r_1.1), r_1.2)) i79_98 v79_222 (Or.inl ⟨by decide, rfl⟩) m77 rfl (Nat.le_of_ble_eq_true rfl) eu_7 (fn77_call (by omega) er_1) ?_
  refine sh_astore (i' := 8) (n := 2) i79_101 (Or.inl rfl) (xokst_of (Nat.le_of_ble_eq_true rfl) rfl) ?_
  refine sh_aload (i' := 8) (n := 2) i79_103 (Or.inl rfl) rfl ?_
  refine sh_null (t := 145) i79_105 rfl (fun c_2 => ?_) (fun c_2 => ?_)
  · replace hf := x_pos c_2 hf
    exact j79_145_ok hd hf
  · replace hf := x_neg c_2 hf
    refine sh_aload (i' := 8) (n := 2) i79_108 (Or.inl rfl) rfl ?_
    refine ev_do i79_110 rfl ?_
    obtain ⟨h_3, eh_3, hf⟩ := x_bind hf
    refine sh_put i79_111 f79_215 (by decide) rfl eh_3 ?_
    refine sh_aload (i' := 8) (n := 2) i79_114 (Or.inl rfl) rfl ?_
    refine ev_do i79_116 rfl ?_
    obtain ⟨h_4, eh_4, hf⟩ := x_bind hf
    refine sh_put i79_117 f79_234 (by decide) rfl eh_4 ?_
    refine sh_aload (i' := 8) (n := 2) i79_120 (Or.inl rfl) rfl ?_
    refine ev_do i79_122 rfl ?_
    obtain ⟨h_5, eh_5, hf⟩ := x_bind hf
    refine sh_put i79_124 f79_235 (by decide) rfl eh_5 ?_
    refine sh_aload (i' := 8) (n := 2) i79_127 (Or.inl rfl) rfl ?_
    refine ev_do i79_129 rfl ?_
    refine ev_do i79_131 rfl ?_
    refine ev_icmp (t := 140) i79_133 rfl (fun c_6 => ?_) (fun c_6 => ?_)
    · replace hf := x_neg (show ¬ x5 = x4 from c_6) hf
      refine ev_do i79_140 rfl ?_
      exact j79_142_ok hd hf
    · replace hf := x_pos (show x5 = x4 from Decidable.byContradiction (fun h9 => c_6 h9)) hf
      refine ev_do i79_136 rfl ?_
      refine sh_goto (t := 142) i79_137 rfl ?_
      exact j79_142_ok hd hf
def j79_89  (o0 : Option Nat) (x1 : Int32) (x2 : Int32) (x3 : Int32) (x4 : Int32) (x5 : Int32) (x6 : Int32) (h : xH) : Option (Option Nat × xH) := j79_90 o0 x1 x2 x3 x4 x5 x6 0 h
theorem j79_89_ok {xs : List Int32} {d : Nat} (hd : 4 ≤ d) {u7 : Value} {u8 : Value} {o0 : Option Nat} {x1 : Int32} {x2 : Int32} {x3 : Int32} {x4 : Int32} {x5 : Int32} {x6 : Int32} {h : xH} {r : (Option Nat × xH)} (hu7 : u7.category = 1) (hu8 : u8.category = 1) (hf : j79_89 o0 x1 x2 x3 x4 x5 x6 h = some r) : xEv (xTa xs) d 79 (89, [xrv o0, .int x1, .int x2, .int x3, .int x4, .int x5, .int x6, u7, u8], [], h) (some (xrv r.1), r.2) := by
  unfold j79_89 at hf
  refine ev_do i79_89 rfl ?_
  exact j79_90_ok hd hu7 hu8 hf
def j79_85  (o0 : Option Nat) (x1 : Int32) (x2 : Int32) (x3 : Int32) (x4 : Int32) (x5 : Int32) (x6 : Int32) (h : xH) : Option (Option Nat × xH) := j79_90 o0 x1 x2 x3 x4 x5 x6 1 h
theorem j79_85_ok {xs : List Int32} {d : Nat} (hd : 4 ≤ d) {u7 : Value} {u8 : Value} {o0 : Option Nat} {x1 : Int32} {x2 : Int32} {x3 : Int32} {x4 : Int32} {x5 : Int32} {x6 : Int32} {h : xH} {r : (Option Nat × xH)} (hu7 : u7.category = 1) (hu8 : u8.category = 1) (hf : j79_85 o0 x1 x2 x3 x4 x5 x6 h = some r) : xEv (xTa xs) d 79 (85, [xrv o0, .int x1, .int x2, .int x3, .int x4, .int x5, .int x6, u7, u8], [], h) (some (xrv r.1), r.2) := by
  unfold j79_85 at hf
  refine ev_do i79_85 rfl ?_
  refine sh_goto (t := 90) i79_86 rfl ?_
  exact j79_90_ok hd hu7 hu8 hf
def fn79 (o0 : Option Nat) (x1 : Int32) (x2 : Int32) (h : xH) : Option (Option Nat × xH) := (xqL 2).bind fun v_1 => (xgR h o0 7 2).bind fun a_2 => (xcv h a_2 9).bind fun _ => (fn105 a_2 125 (x1 + v_1) x2 h).bind fun r_3 => (xgR r_3.2 o0 7 2).bind fun a_4 => (xcv r_3.2 a_4 9).bind fun _ => (fn105 a_4 32 (x1 + v_1) r_3.1 r_3.2).bind fun r_5 => (xgR r_5.2 o0 7 2).bind fun a_6 => (xcv r_5.2 a_6 9).bind fun _ => (fn106 a_6 r_5.1 r_3.1 r_5.2).bind fun r_7 => (if x2 ≤ r_3.1 then j79_89 o0 x1 x2 (x1 + v_1) r_3.1 r_5.1 r_7.1 r_7.2 else (xgR r_7.2 o0 7 2).bind fun a_9 => (xcv r_7.2 a_9 9).bind fun _ => (fn109 a_9 (x1 + v_1) r_5.1 r_7.2).bind fun r_10 => (if r_10.1 = 0 then j79_89 o0 x1 x2 (x1 + v_1) r_3.1 r_5.1 r_7.1 r_10.2 else (if r_5.1 = r_3.1 then j79_85 o0 x1 x2 (x1 + v_1) r_3.1 r_5.1 r_7.1 r_10.2 else (xcv r_10.2 o0 7).bind fun _ => (fn80 o0 r_7.1 r_3.1 r_10.2).bind fun r_13 => (if r_13.1 = 0 then j79_89 o0 x1 x2 (x1 + v_1) r_3.1 r_5.1 r_7.1 r_13.2 else j79_85 o0 x1 x2 (x1 + v_1) r_3.1 r_5.1 r_7.1 r_13.2))))
theorem fn79_call {xs : List Int32} {d : Nat} (hd : 5 ≤ d) {o0 : Option Nat} {x1 : Int32} {x2 : Int32} {h : xH} {r : (Option Nat × xH)} (hf : fn79 o0 x1 x2 h = some r) : xCall (xTa xs) d 79 [xrv o0, .int x1, .int x2] h (some (xrv r.1), r.2) := by
  obtain ⟨d, rfl⟩ : ∃ d2, d = d2 + 1 := ⟨d - 1, by omega⟩
  replace hd : 4 ≤ d := by omega
  refine call_of2 (fl := [xrv o0, .int x1, .int x2]) (Ls := [xrv o0, .int x1, .int x2, .float 0, .float 0, .float 0, .float 0, .float 0, .float 0]) m79 (by simp [xfl, xrv_cat, xc_i, xc_j, xc_a, xc_f]) (Nat.le_of_ble_eq_true rfl) rfl ?_
  unfold fn79 at hf
  refine ev_do i79_0 rfl ?_
  refine ev_ldc (k := 2) i79_1 (Or.inl ⟨rfl, rfl⟩) s79_199 (by decide) ?_
  obtain ⟨v_1, ev_1, hf⟩ := x_bind hf
  refine sh_tlen i79_3 v79_147 (Nat.le_of_ble_eq_true rfl) (by omega) ev_1 ?_
  refine ev_do i79_6 rfl ?_
  refine sh_istore (i' := 3) (n := 1) i79_7 (Or.inr ⟨rfl, by decide⟩) (xokst_of (Nat.le_of_ble_eq_true rfl) rfl) ?_
  refine sh_aload (i' := 0) (n := 1) i79_8 (Or.inr ⟨rfl, by decide⟩) rfl ?_
  obtain ⟨a_2, ea_2, hf⟩ := x_bind hf
  refine sh_getR i79_9 f79_29 ea_2 ?_
  refine ev_do i79_12 rfl ?_
  refine ev_do i79_14 rfl ?_
  refine ev_do i79_15 rfl ?_
  obtain ⟨_, eu_19, hf⟩ := x_bind hf
  obtain ⟨r_3, er_3, hf⟩ := x_bind hf
  refine sh_inv (as := [.int x2, .int (x1 + v_1), .int 125]) (z := (some (.int r_3.1), r_3.2)) i79_16 v79_51 (Or.inl ⟨by decide, rfl⟩) m105 rfl (Nat.le_of_ble_eq_true rfl) eu_19 (fn105_call (by omega) er_3) ?_
  refine sh_istore (i' := 4) (n := 2) i79_19 (Or.inl rfl) (xokst_of (Nat.le_of_ble_eq_true rfl) rfl) ?_
  refine sh_aload (i' := 0) (n := 1) i79_21 (Or.inr ⟨rfl, by decide⟩) rfl ?_
  obtain ⟨a_4, ea_4, hf⟩ := x_bind hf
  refine sh_getR i79_22 f79_29 ea_4 ?_
  refine ev_do i79_25 rfl ?_
  refine ev_do i79_27 rfl ?_
  refine ev_do i79_28 rfl ?_
  obtain ⟨_, eu_18, hf⟩ := x_bind hf
  obtain ⟨r_5, er_5, hf⟩ := x_bind hf
  refine sh_inv (as := [.int r_3.1, .int (x1 + v_1), .int 32]) (z := (some (.int r_5.1), r_5.2)) i79_30 v79_51 (Or.inl ⟨by decide, rfl⟩) m105 rfl (Nat.le_of_ble_eq_true rfl) eu_18 (fn105_call (by omega) er_5) ?_
  refine sh_istore (i' := 5) (n := 2) i79_33 (Or.inl rfl) (xokst_of (Nat.le_of_ble_eq_true rfl) rfl) ?_
  refine sh_aload (i' := 0) (n := 1) i79_35 (Or.inr ⟨rfl, by decide⟩) rfl ?_
  obtain ⟨a_6, ea_6, hf⟩ := x_bind hf
  refine sh_getR i79_36 f79_29 ea_6 ?_
  refine ev_do i79_39 rfl ?_
  refine ev_do i79_41 rfl ?_
  obtain ⟨_, eu_17, hf⟩ := x_bind hf
  obtain ⟨r_7, er_7, hf⟩ := x_bind hf
  refine sh_inv (as := [.int r_3.1, .int r_5.1]) (z := (some (.int r_7.1), r_7.2)) i79_43 v79_55 (Or.inl ⟨by decide, rfl⟩) m106 rfl (Nat.le_of_ble_eq_true rfl) eu_17 (fn106_call (by omega) er_7) ?_
  refine sh_istore (i' := 6) (n := 2) i79_46 (Or.inl rfl) (xokst_of (Nat.le_of_ble_eq_true rfl) rfl) ?_
  refine ev_do i79_48 rfl ?_
  refine ev_do i79_50 rfl ?_
  refine ev_icmp (t := 89) i79_51 rfl (fun c_8 => ?_) (fun c_8 => ?_)
  · replace hf := x_pos (show x2 ≤ r_3.1 from c_8) hf
    exact j79_89_ok hd rfl rfl hf
  · replace hf := x_neg (show ¬ x2 ≤ r_3.1 from c_8) hf
    refine sh_aload (i' := 0) (n := 1) i79_54 (Or.inr ⟨rfl, by decide⟩) rfl ?_
    obtain ⟨a_9, ea_9, hf⟩ := x_bind hf
    refine sh_getR i79_55 f79_29 ea_9 ?_
    refine ev_do i79_58 rfl ?_
    refine ev_do i79_59 rfl ?_
    obtain ⟨_, eu_16, hf⟩ := x_bind hf
    obtain ⟨r_10, er_10, hf⟩ := x_bind hf
    refine sh_inv (as := [.int r_5.1, .int (x1 + v_1)]) (z := (some (.int r_10.1), r_10.2)) i79_61 v79_169 (Or.inl ⟨by decide, rfl⟩) m109 rfl (Nat.le_of_ble_eq_true rfl) eu_16 (fn109_call (by omega) er_10) ?_
    refine ev_if (t := 89) i79_64 rfl (fun c_11 => ?_) (fun c_11 => ?_)
    · replace hf := x_pos (show r_10.1 = 0 from c_11) hf
      exact j79_89_ok hd rfl rfl hf
    · replace hf := x_neg (show ¬ r_10.1 = 0 from c_11) hf
      refine ev_do i79_67 rfl ?_
      refine ev_do i79_69 rfl ?_
      refine ev_icmp (t := 85) i79_71 rfl (fun c_12 => ?_) (fun c_12 => ?_)
      · replace hf := x_pos (show r_5.1 = r_3.1 from c_12) hf
        exact j79_85_ok hd rfl rfl hf
      · replace hf := x_neg (show ¬ r_5.1 = r_3.1 from c_12) hf
        refine sh_aload (i' := 0) (n := 1) i79_74 (Or.inr ⟨rfl, by decide⟩) rfl ?_
        refine ev_do i79_75 rfl ?_
        refine ev_do i79_77 rfl ?_
        obtain ⟨_, eu_15, hf⟩ := x_bind hf
        obtain ⟨r_13, er_13, hf⟩ := x_bind hf
        refine sh_inv (as := [.int r_3.1, .int r_7.1]) (z := (some (.int r_13.1), r_13.2)) i79_79 v79_231 (Or.inl ⟨by decide, rfl⟩) m80 rfl (Nat.le_of_ble_eq_true rfl) eu_15 (fn80_call (by omega) er_13) ?_
        refine ev_if (t := 89) i79_82 rfl (fun c_14 => ?_) (fun c_14 => ?_)
        · replace hf := x_pos (show r_13.1 = 0 from c_14) hf
          exact j79_89_ok hd rfl rfl hf
        · replace hf := x_neg (show ¬ r_13.1 = 0 from c_14) hf
          exact j79_85_ok hd rfl rfl hf
end
section
def l104_2  : Nat → Option Nat → Int32 → Nat → Int32 → xH → Option (Int32 × xH)
  | 0 => fun _ _ _ _ _ => none
  | n + 1 => fun o0 x1 q2 x3 h => (xqL q2).bind fun v_1 => (if v_1 ≤ x3 then some (1, h) else (xcv h o0 9).bind fun _ => (fn96 o0 (x1 + x3) h).bind fun r_3 => (xqC q2 x3).bind fun v_4 => (if r_3.1 = v_4 then l104_2 n o0 x1 q2 (x3 + 1) r_3.2 else some (0, r_3.2)))
theorem l104_2_ok {xs : List Int32} {d : Nat} (hd : 5 ≤ d) : ∀ (n : Nat) {o0 : Option Nat} {x1 : Int32} {q2 : Nat} {x3 : Int32} {h : xH} {r : (Int32 × xH)}, l104_2 n o0 x1 q2 x3 h = some r → xEv (xTa xs) d 104 (2, [xrv o0, .int x1, .retAddr (q2 + 1), .int x3], [], h) (some (.int r.1), r.2) := by
  intro n
  induction n with
  | zero => intros; rename_i hf; cases hf
  | succ n ih =>
    intro o0 x1 q2 x3 h r hf
    replace hf : ((xqL q2).bind fun v_1 => (if v_1 ≤ x3 then some (1, h) else (xcv h o0 9).bind fun _ => (fn96 o0 (x1 + x3) h).bind fun r_3 => (xqC q2 x3).bind fun v_4 => (if r_3.1 = v_4 then l104_2 n o0 x1 q2 (x3 + 1) r_3.2 else some (0, r_3.2)))) = some r := hf
    refine ev_do i104_2 rfl ?_
    refine ev_do i104_3 rfl ?_
    obtain ⟨v_1, ev_1, hf⟩ := x_bind hf
    refine sh_tlen i104_4 v104_29 (Nat.le_of_ble_eq_true rfl) (by omega) ev_1 ?_
    refine ev_icmp (t := 33) i104_7 rfl (fun c_2 => ?_) (fun c_2 => ?_)
    · replace hf := x_pos (show v_1 ≤ x3 from c_2) hf
      refine ev_do i104_33 rfl ?_
      obtain rfl := Option.some.inj hf
      exact sh_iret i104_34 m104 rfl (by decide)
    · replace hf := x_neg (show ¬ v_1 ≤ x3 from c_2) hf
      refine sh_aload (i' := 0) (n := 1) i104_10 (Or.inr ⟨rfl, by decide⟩) rfl ?_
      refine ev_do i104_11 rfl ?_
      refine ev_do i104_12 rfl ?_
      refine ev_do i104_13 rfl ?_
      obtain ⟨_, eu_6, hf⟩ := x_bind hf
      obtain ⟨r_3, er_3, hf⟩ := x_bind hf
      refine sh_inv (as := [.int (x1 + x3)]) (z := (some (.int r_3.1), r_3.2)) i104_14 v104_39 (Or.inl ⟨by decide, rfl⟩) m96 rfl (Nat.le_of_ble_eq_true rfl) eu_6 (fn96_call (by omega) er_3) ?_
      refine ev_do i104_17 rfl ?_
      refine ev_do i104_18 rfl ?_
      obtain ⟨v_4, ev_4, hf⟩ := x_bind hf
      refine sh_tchr i104_19 v104_35 (Nat.le_of_ble_eq_true rfl) (by omega) ev_4 ?_
      refine ev_icmp (t := 27) i104_22 rfl (fun c_5 => ?_) (fun c_5 => ?_)
      · replace hf := x_pos (show r_3.1 = v_4 from c_5) hf
        refine sh_inc (i' := 3) i104_27 rfl (xokst_of (Nat.le_of_ble_eq_true rfl) rfl) rfl ?_
        refine sh_goto (t := 2) i104_30 rfl ?_
        exact ih hf
      · replace hf := x_neg (show ¬ r_3.1 = v_4 from c_5) hf
        refine ev_do i104_25 rfl ?_
        obtain rfl := Option.some.inj hf
        exact sh_iret i104_26 m104 rfl (by decide)
def fn104 (o0 : Option Nat) (x1 : Int32) (q2 : Nat) (h : xH) : Option (Int32 × xH) := l104_2 xFuel o0 x1 q2 0 h
theorem fn104_call {xs : List Int32} {d : Nat} (hd : 6 ≤ d) {o0 : Option Nat} {x1 : Int32} {q2 : Nat} {h : xH} {r : (Int32 × xH)} (hf : fn104 o0 x1 q2 h = some r) : xCall (xTa xs) d 104 [xrv o0, .int x1, .retAddr (q2 + 1)] h (some (.int r.1), r.2) := by
  obtain ⟨d, rfl⟩ : ∃ d2, d = d2 + 1 := ⟨d - 1, by omega⟩
  replace hd : 5 ≤ d := by omega
  refine call_of2 (fl := [xrv o0, .int x1, .retAddr (q2 + 1)]) (Ls := [xrv o0, .int x1, .retAddr (q2 + 1), .float 0]) m104 (by simp [xfl, xrv_cat, xc_i, xc_j, xc_a, xc_f]) (Nat.le_of_ble_eq_true rfl) rfl ?_
  unfold fn104 at hf
  refine ev_do i104_0 rfl ?_
  refine sh_istore (i' := 3) (n := 1) i104_1 (Or.inr ⟨rfl, by decide⟩) (xokst_of (Nat.le_of_ble_eq_true rfl) rfl) ?_
  exact l104_2_ok hd xFuel hf
end
section
def j74_173  (o0 : Option Nat) (x1 : Int32) (x2 : Int32) (x3 : Int32) (x4 : Int32) (x5 : Int32) (h : xH) : Option xH := some h
theorem j74_173_ok {xs : List Int32} {d : Nat} (hd : 6 ≤ d) {u6 : Value} {u7 : Value} {o0 : Option Nat} {x1 : Int32} {x2 : Int32} {x3 : Int32} {x4 : Int32} {x5 : Int32} {h : xH} {r : xH} (hu6 : u6.category = 1) (hu7 : u7.category = 1) (hf : j74_173 o0 x1 x2 x3 x4 x5 h = some r) : xEv (xTa xs) d 74 (173, [xrv o0, .int x1, .int x2, .int x3, .int x4, .int x5, u6, u7], [], h) (none, r) := by
  unfold j74_173 at hf
  obtain rfl := Option.some.inj hf
  exact sh_vret i74_173 m74 rfl
def j74_165 (k16 : Option Nat → Int32 → Int32 → Int32 → Int32 → Int32 → xH → Option xH) (o0 : Option Nat) (x1 : Int32) (x2 : Int32) (x3 : Int32) (x4 : Int32) (x5 : Int32) (o6 : Option Nat) (x7 : Int32) (s0 : Int32) (h : xH) : Option xH := k16 o0 x1 x2 x3 s0 (x5 + 1) h
theorem j74_165_ok {xs : List Int32} {d : Nat} (hd : 6 ≤ d) {k16 : Option Nat → Int32 → Int32 → Int32 → Int32 → Int32 → xH → Option xH} (hk16 : ∀ {u6 : Value} {u7 : Value} {o0 : Option Nat} {x1 : Int32} {x2 : Int32} {x3 : Int32} {x4 : Int32} {x5 : Int32} {h : xH} {r : xH}, u6.category = 1 → u7.category = 1 → k16 o0 x1 x2 x3 x4 x5 h = some r → xEv (xTa xs) d 74 (16, [xrv o0, .int x1, .int x2, .int x3, .int x4, .int x5, u6, u7], [], h) (none, r)) {o0 : Option Nat} {x1 : Int32} {x2 : Int32} {x3 : Int32} {x4 : Int32} {x5 : Int32} {o6 : Option Nat} {x7 : Int32} {s0 : Int32} {h : xH} {r : xH} (hf : j74_165 k16 o0 x1 x2 x3 x4 x5 o6 x7 s0 h = some r) : xEv (xTa xs) d 74 (165, [xrv o0, .int x1, .int x2, .int x3, .int x4, .int x5, xrv o6, .int x7], [.int s0], h) (none, r) := by
  unfold j74_165 at hf
  refine sh_istore (i' := 4) (n := 2) i74_165 (Or.inl rfl) (xokst_of (Nat.le_of_ble_eq_true rfl) rfl) ?_
  refine sh_inc (i' := 5) i74_167 rfl (xokst_of (Nat.le_of_ble_eq_true rfl) rfl) rfl ?_
  refine sh_goto (t := 16) i74_170 rfl ?_
  exact hk16 (xrv_cat (o6)) rfl hf
def j74_141 (k16 : Option Nat → Int32 → Int32 → Int32 → Int32 → Int32 → xH → Option xH) (o0 : Option Nat) (x1 : Int32) (x2 : Int32) (x3 : Int32) (x4 : Int32) (x5 : Int32) (o6 : Option Nat) (s0 : Int32) (h : xH) : Option xH := (xgR h o0 7 2).bind fun a_1 => (xcv h a_1 9).bind fun _ => (fn106 a_1 s0 x2 h).bind fun r_2 => (if r_2.1 = s0 then j74_165 k16 o0 x1 x2 r_2.1 x4 x5 o6 s0 1 r_2.2 else j74_165 k16 o0 x1 x2 r_2.1 x4 x5 o6 s0 0 r_2.2)
theorem j74_141_ok {xs : List Int32} {d : Nat} (hd : 6 ≤ d) {k16 : Option Nat → Int32 → Int32 → Int32 → Int32 → Int32 → xH → Option xH} (hk16 : ∀ {u6 : Value} {u7 : Value} {o0 : Option Nat} {x1 : Int32} {x2 : Int32} {x3 : Int32} {x4 : Int32} {x5 : Int32} {h : xH} {r : xH}, u6.category = 1 → u7.category = 1 → k16 o0 x1 x2 x3 x4 x5 h = some r → xEv (xTa xs) d 74 (16, [xrv o0, .int x1, .int x2, .int x3, .int x4, .int x5, u6, u7], [], h) (none, r)) {u7 : Value} {o0 : Option Nat} {x1 : Int32} {x2 : Int32} {x3 : Int32} {x4 : Int32} {x5 : Int32} {o6 : Option Nat} {s0 : Int32} {h : xH} {r : xH} (hu7 : u7.category = 1) (hf : j74_141 k16 o0 x1 x2 x3 x4 x5 o6 s0 h = some r) : xEv (xTa xs) d 74 (141, [xrv o0, .int x1, .int x2, .int x3, .int x4, .int x5, xrv o6, u7], [.int s0], h) (none, r) := by
  unfold j74_141 at hf
  refine sh_istore (i' := 7) (n := 2) i74_141 (Or.inl rfl) (xokst_of (Nat.le_of_ble_eq_true rfl) (xrv_cat (o6))) ?_
  refine sh_aload (i' := 0) (n := 1) i74_143 (Or.inr ⟨rfl, by decide⟩) rfl ?_
  obtain ⟨a_1, ea_1, hf⟩ := x_bind hf
  refine sh_getR i74_144 f74_29 ea_1 ?_
  refine ev_do i74_147 rfl ?_
  refine ev_do i74_149 rfl ?_
  obtain ⟨_, eu_4, hf⟩ := x_bind hf
  obtain ⟨r_2, er_2, hf⟩ := x_bind hf
  refine sh_inv (as := [.int x2, .int s0]) (z := (some (.int r_2.1), r_2.2)) i74_150 v74_55 (Or.inl ⟨by decide, rfl⟩) m106 rfl (Nat.le_of_ble_eq_true rfl) eu_4 (fn106_call (by omega) er_2) ?_
  refine sh_istore (i' := 3) (n := 1) i74_153 (Or.inr ⟨rfl, by decide⟩) (xokst_of (Nat.le_of_ble_eq_true rfl) rfl) ?_
  refine ev_do i74_154 rfl ?_
  refine ev_do i74_155 rfl ?_
  refine ev_icmp (t := 164) i74_157 rfl (fun c_3 => ?_) (fun c_3 => ?_)
  · replace hf := x_neg (show ¬ r_2.1 = s0 from c_3) hf
    refine ev_do i74_164 rfl ?_
    exact j74_165_ok hd hk16 hf
  · replace hf := x_pos (show r_2.1 = s0 from Decidable.byContradiction (fun h9 => c_3 h9)) hf
    refine ev_do i74_160 rfl ?_
    refine sh_goto (t := 165) i74_161 rfl ?_
    exact j74_165_ok hd hk16 hf
def j74_97  (o0 : Option Nat) (x1 : Int32) (x2 : Int32) (x3 : Int32) (x4 : Int32) (x5 : Int32) (o6 : Option Nat) (h : xH) : Option xH := some h
theorem j74_97_ok {xs : List Int32} {d : Nat} (hd : 6 ≤ d) {u7 : Value} {o0 : Option Nat} {x1 : Int32} {x2 : Int32} {x3 : Int32} {x4 : Int32} {x5 : Int32} {o6 : Option Nat} {h : xH} {r : xH} (hu7 : u7.category = 1) (hf : j74_97 o0 x1 x2 x3 x4 x5 o6 h = some r) : xEv (xTa xs) d 74 (97, [xrv o0, .int x1, .int x2, .int x3, .int x4, .int x5, xrv o6, u7], [], h) (none, r) := by
  unfold j74_97 at hf
  obtain rfl := Option.some.inj hf
  exact sh_vret i74_97 m74 rfl
def j74_85 (k16 : Option Nat → Int32 → Int32 → Int32 → Int32 → Int32 → xH → Option xH) (o0 : Option Nat) (x1 : Int32) (x2 : Int32) (x3 : Int32) (x4 : Int32) (x5 : Int32) (o6 : Option Nat) (h : xH) : Option xH := (if o6 = none then j74_97 o0 x1 x2 x3 x4 x5 o6 h else (xgR h o0 7 3).bind fun a_2 => (if a_2 = none then j74_97 o0 x1 x2 x3 x4 x5 o6 h else (xpF h o6 6 6 .boolean (.int x4)).bind fun h_4 => (xgR h_4 o0 7 3).bind fun a_5 => (xgI h_4 a_5 0 5).bind fun v_6 => (xpF h_4 a_5 0 5 .int (.int (v_6 + 1))).bind fun h_7 => (xgI h_7 o6 6 0).bind fun v_8 => (if v_8 = 0 then (xgI h_7 o6 6 3).bind fun v_10 => j74_141 k16 o0 x1 x2 x3 x4 x5 o6 v_10 h_7 else (xgI h_7 o6 6 3).bind fun v_11 => j74_141 k16 o0 x1 x2 x3 x4 x5 o6 (v_11 + 1) h_7)))
theorem j74_85_ok {xs : List Int32} {d : Nat} (hd : 6 ≤ d) {k16 : Option Nat → Int32 → Int32 → Int32 → Int32 → Int32 → xH → Option xH} (hk16 : ∀ {u6 : Value} {u7 : Value} {o0 : Option Nat} {x1 : Int32} {x2 : Int32} {x3 : Int32} {x4 : Int32} {x5 : Int32} {h : xH} {r : xH}, u6.category = 1 → u7.category = 1 → k16 o0 x1 x2 x3 x4 x5 h = some r → xEv (xTa xs) d 74 (16, [xrv o0, .int x1, .int x2, .int x3, .int x4, .int x5, u6, u7], [], h) (none, r)) {u7 : Value} {o0 : Option Nat} {x1 : Int32} {x2 : Int32} {x3 : Int32} {x4 : Int32} {x5 : Int32} {o6 : Option Nat} {h : xH} {r : xH} (hu7 : u7.category = 1) (hf : j74_85 k16 o0 x1 x2 x3 x4 x5 o6 h = some r) : xEv (xTa xs) d 74 (85, [xrv o0, .int x1, .int x2, .int x3, .int x4, .int x5, xrv o6, u7], [], h) (none, r) := by
  unfold j74_85 at hf
  refine sh_aload (i' := 6) (n := 2) i74_85 (Or.inl rfl) rfl ?_
  refine sh_null (t := 97) i74_87 rfl (fun c_1 => ?_) (fun c_1 => ?_)
  · replace hf := x_pos c_1 hf
    exact j74_97_ok hd hu7 hf
  · replace hf := x_neg c_1 hf
    refine sh_aload (i' := 0) (n := 1) i74_90 (Or.inr ⟨rfl, by decide⟩) rfl ?_
    obtain ⟨a_2, ea_2, hf⟩ := x_bind hf
    refine sh_getR i74_91 f74_30 ea_2 ?_
    refine sh_nnul (t := 98) i74_94 rfl (fun c_3 => ?_) (fun c_3 => ?_)
    · replace hf := x_pos c_3 hf
      exact j74_97_ok hd hu7 hf
    · replace hf := x_neg c_3 hf
      refine sh_aload (i' := 6) (n := 2) i74_98 (Or.inl rfl) rfl ?_
      refine ev_do i74_100 rfl ?_
      obtain ⟨h_4, eh_4, hf⟩ := x_bind hf
      refine sh_put i74_102 f74_207 (by decide) rfl eh_4 ?_
      refine sh_aload (i' := 0) (n := 1) i74_105 (Or.inr ⟨rfl, by decide⟩) rfl ?_
      obtain ⟨a_5, ea_5, hf⟩ := x_bind hf
      refine sh_getR i74_106 f74_30 ea_5 ?_
      refine sh_dup i74_109 (xrv_cat (a_5)) ?_
      obtain ⟨v_6, ev_6, hf⟩ := x_bind hf
      refine sh_getI i74_110 f74_212 ev_6 ?_
      refine ev_do i74_113 rfl ?_
      refine ev_do i74_114 rfl ?_
      obtain ⟨h_7, eh_7, hf⟩ := x_bind hf
      refine sh_put i74_115 f74_212 (by decide) rfl eh_7 ?_
      refine sh_aload (i' := 6) (n := 2) i74_118 (Or.inl rfl) rfl ?_
      obtain ⟨v_8, ev_8, hf⟩ := x_bind hf
      refine sh_getI i74_120 f74_215 ev_8 ?_
      refine ev_if (t := 134) i74_123 rfl (fun c_9 => ?_) (fun c_9 => ?_)
      · replace hf := x_neg (show ¬ v_8 = 0 from c_9) hf
        refine sh_aload (i' := 6) (n := 2) i74_134 (Or.inl rfl) rfl ?_
        obtain ⟨v_11, ev_11, hf⟩ := x_bind hf
        refine sh_getI i74_136 f74_216 ev_11 ?_
        refine ev_do i74_139 rfl ?_
        refine ev_do i74_140 rfl ?_
        exact j74_141_ok hd hk16 hu7 hf
      · replace hf := x_pos (show v_8 = 0 from Decidable.byContradiction (fun h9 => c_9 h9)) hf
        refine sh_aload (i' := 6) (n := 2) i74_126 (Or.inl rfl) rfl ?_
        obtain ⟨v_10, ev_10, hf⟩ := x_bind hf
        refine sh_getI i74_128 f74_216 ev_10 ?_
        refine sh_goto (t := 141) i74_131 rfl ?_
        exact j74_141_ok hd hk16 hu7 hf
def l74_16  : Nat → Option Nat → Int32 → Int32 → Int32 → Int32 → Int32 → xH → Option xH
  | 0 => fun _ _ _ _ _ _ _ => none
  | n + 1 => fun o0 x1 x2 x3 x4 x5 h => (if 600 ≤ x5 then j74_173 o0 x1 x2 x3 x4 x5 h else (if x2 ≤ x3 then j74_173 o0 x1 x2 x3 x4 x5 h else (xgR h o0 7 2).bind fun a_3 => (xcv h a_3 9).bind fun _ => (fn104 a_3 x3 1 h).bind fun r_4 => (if r_4.1 = 0 then (xgR r_4.2 o0 7 2).bind fun a_6 => (xcv r_4.2 a_6 9).bind fun _ => (fn104 a_6 x3 2 r_4.2).bind fun r_7 => (if r_7.1 = 0 then (xcv r_7.2 o0 7).bind fun _ => (fn75 o0 x3 x2 r_7.2).bind fun r_9 => j74_85 (l74_16 n) o0 x1 x2 x3 x4 x5 r_9.1 r_9.2 else (xcv r_7.2 o0 7).bind fun _ => (fn79 o0 x3 x2 r_7.2).bind fun r_11 => j74_85 (l74_16 n) o0 x1 x2 x3 x4 x5 r_11.1 r_11.2) else (xcv r_4.2 o0 7).bind fun _ => (fn78 o0 x3 x2 r_4.2).bind fun r_14 => j74_85 (l74_16 n) o0 x1 x2 x3 x4 x5 r_14.1 r_14.2)))
theorem l74_16_ok {xs : List Int32} {d : Nat} (hd : 6 ≤ d) : ∀ (n : Nat) {u6 : Value} {u7 : Value} {o0 : Option Nat} {x1 : Int32} {x2 : Int32} {x3 : Int32} {x4 : Int32} {x5 : Int32} {h : xH} {r : xH} (hu6 : u6.category = 1) (hu7 : u7.category = 1), l74_16 n o0 x1 x2 x3 x4 x5 h = some r → xEv (xTa xs) d 74 (16, [xrv o0, .int x1, .int x2, .int x3, .int x4, .int x5, u6, u7], [], h) (none, r) := by
  intro n
  induction n with
  | zero => intros; rename_i hf; cases hf
  | succ n ih =>
    intro u6 u7 o0 x1 x2 x3 x4 x5 h r hu6 hu7 hf
    replace hf : ((if 600 ≤ x5 then j74_173 o0 x1 x2 x3 x4 x5 h else (if x2 ≤ x3 then j74_173 o0 x1 x2 x3 x4 x5 h else (xgR h o0 7 2).bind fun a_3 => (xcv h a_3 9).bind fun _ => (fn104 a_3 x3 1 h).bind fun r_4 => (if r_4.1 = 0 then (xgR r_4.2 o0 7 2).bind fun a_6 => (xcv r_4.2 a_6 9).bind fun _ => (fn104 a_6 x3 2 r_4.2).bind fun r_7 => (if r_7.1 = 0 then (xcv r_7.2 o0 7).bind fun _ => (fn75 o0 x3 x2 r_7.2).bind fun r_9 => j74_85 (l74_16 n) o0 x1 x2 x3 x4 x5 r_9.1 r_9.2 else (xcv r_7.2 o0 7).bind fun _ => (fn79 o0 x3 x2 r_7.2).bind fun r_11 => j74_85 (l74_16 n) o0 x1 x2 x3 x4 x5 r_11.1 r_11.2) else (xcv r_4.2 o0 7).bind fun _ => (fn78 o0 x3 x2 r_4.2).bind fun r_14 => j74_85 (l74_16 n) o0 x1 x2 x3 x4 x5 r_14.1 r_14.2)))) = some r := hf
    refine ev_do i74_16 rfl ?_
    refine ev_do i74_18 rfl ?_
    refine ev_icmp (t := 173) i74_21 rfl (fun c_1 => ?_) (fun c_1 => ?_)
    · replace hf := x_pos (show 600 ≤ x5 from c_1) hf
      exact j74_173_ok hd hu6 hu7 hf
    · replace hf := x_neg (show ¬ 600 ≤ x5 from c_1) hf
      refine ev_do i74_24 rfl ?_
      refine ev_do i74_25 rfl ?_
      refine ev_icmp (t := 173) i74_26 rfl (fun c_2 => ?_) (fun c_2 => ?_)
      · replace hf := x_pos (show x2 ≤ x3 from c_2) hf
        exact j74_173_ok hd hu6 hu7 hf
      · replace hf := x_neg (show ¬ x2 ≤ x3 from c_2) hf
        refine sh_aload (i' := 0) (n := 1) i74_29 (Or.inr ⟨rfl, by decide⟩) rfl ?_
        obtain ⟨a_3, ea_3, hf⟩ := x_bind hf
        refine sh_getR i74_30 f74_29 ea_3 ?_
        refine ev_do i74_33 rfl ?_
        refine ev_ldc (k := 1) i74_34 (Or.inl ⟨rfl, rfl⟩) s74_193 (by decide) ?_
        obtain ⟨_, eu_16, hf⟩ := x_bind hf
        obtain ⟨r_4, er_4, hf⟩ := x_bind hf
        refine sh_inv (as := [.retAddr (1 + 1), .int x3]) (z := (some (.int r_4.1), r_4.2)) i74_36 v74_134 (Or.inl ⟨by decide, rfl⟩) m104 rfl (Nat.le_of_ble_eq_true rfl) eu_16 (fn104_call (by omega) er_4) ?_
        refine ev_if (t := 53) i74_39 rfl (fun c_5 => ?_) (fun c_5 => ?_)
        · replace hf := x_pos (show r_4.1 = 0 from c_5) hf
          refine sh_aload (i' := 0) (n := 1) i74_53 (Or.inr ⟨rfl, by decide⟩) rfl ?_
          obtain ⟨a_6, ea_6, hf⟩ := x_bind hf
          refine sh_getR i74_54 f74_29 ea_6 ?_
          refine ev_do i74_57 rfl ?_
          refine ev_ldc (k := 2) i74_58 (Or.inl ⟨rfl, rfl⟩) s74_199 (by decide) ?_
          obtain ⟨_, eu_13, hf⟩ := x_bind hf
          obtain ⟨r_7, er_7, hf⟩ := x_bind hf
          refine sh_inv (as := [.retAddr (2 + 1), .int x3]) (z := (some (.int r_7.1), r_7.2)) i74_60 v74_134 (Or.inl ⟨by decide, rfl⟩) m104 rfl (Nat.le_of_ble_eq_true rfl) eu_13 (fn104_call (by omega) er_7) ?_
          refine ev_if (t := 77) i74_63 rfl (fun c_8 => ?_) (fun c_8 => ?_)
          · replace hf := x_pos (show r_7.1 = 0 from c_8) hf
            refine sh_aload (i' := 0) (n := 1) i74_77 (Or.inr ⟨rfl, by decide⟩) rfl ?_
            refine ev_do i74_78 rfl ?_
            refine ev_do i74_79 rfl ?_
            obtain ⟨_, eu_10, hf⟩ := x_bind hf
            obtain ⟨r_9, er_9, hf⟩ := x_bind hf
            refine sh_inv (as := [.int x2, .int x3]) (z := (some (xrv r_9.1), r_9.2)) i74_80 v74_204 (Or.inl ⟨by decide, rfl⟩) m75 rfl (Nat.le_of_ble_eq_true rfl) eu_10 (fn75_call (by omega) er_9) ?_
            refine sh_astore (i' := 6) (n := 2) i74_83 (Or.inl rfl) (xokst_of (Nat.le_of_ble_eq_true rfl) rfl) ?_
            exact j74_85_ok hd ih hu7 hf
          · replace hf := x_neg (show ¬ r_7.1 = 0 from c_8) hf
            refine sh_aload (i' := 0) (n := 1) i74_66 (Or.inr ⟨rfl, by decide⟩) rfl ?_
            refine ev_do i74_67 rfl ?_
            refine ev_do i74_68 rfl ?_
            obtain ⟨_, eu_12, hf⟩ := x_bind hf
            obtain ⟨r_11, er_11, hf⟩ := x_bind hf
            refine sh_inv (as := [.int x2, .int x3]) (z := (some (xrv r_11.1), r_11.2)) i74_69 v74_201 (Or.inl ⟨by decide, rfl⟩) m79 rfl (Nat.le_of_ble_eq_true rfl) eu_12 (fn79_call (by omega) er_11) ?_
            refine sh_astore (i' := 6) (n := 2) i74_72 (Or.inl rfl) (xokst_of (Nat.le_of_ble_eq_true rfl) rfl) ?_
            refine sh_goto (t := 85) i74_74 rfl ?_
            exact j74_85_ok hd ih hu7 hf
        · replace hf := x_neg (show ¬ r_4.1 = 0 from c_5) hf
          refine sh_aload (i' := 0) (n := 1) i74_42 (Or.inr ⟨rfl, by decide⟩) rfl ?_
          refine ev_do i74_43 rfl ?_
          refine ev_do i74_44 rfl ?_
          obtain ⟨_, eu_15, hf⟩ := x_bind hf
          obtain ⟨r_14, er_14, hf⟩ := x_bind hf
          refine sh_inv (as := [.int x2, .int x3]) (z := (some (xrv r_14.1), r_14.2)) i74_45 v74_195 (Or.inl ⟨by decide, rfl⟩) m78 rfl (Nat.le_of_ble_eq_true rfl) eu_15 (fn78_call (by omega) er_14) ?_
          refine sh_astore (i' := 6) (n := 2) i74_48 (Or.inl rfl) (xokst_of (Nat.le_of_ble_eq_true rfl) rfl) ?_
          refine sh_goto (t := 85) i74_50 rfl ?_
          exact j74_85_ok hd ih hu7 hf
def fn74 (o0 : Option Nat) (x1 : Int32) (x2 : Int32) (h : xH) : Option xH := (xgR h o0 7 2).bind fun a_1 => (xcv h a_1 9).bind fun _ => (fn106 a_1 x1 x2 h).bind fun r_2 => l74_16 xFuel o0 x1 x2 r_2.1 0 0 r_2.2
theorem fn74_call {xs : List Int32} {d : Nat} (hd : 7 ≤ d) {o0 : Option Nat} {x1 : Int32} {x2 : Int32} {h : xH} {r : xH} (hf : fn74 o0 x1 x2 h = some r) : xCall (xTa xs) d 74 [xrv o0, .int x1, .int x2] h (none, r) := by
  obtain ⟨d, rfl⟩ : ∃ d2, d = d2 + 1 := ⟨d - 1, by omega⟩
  replace hd : 6 ≤ d := by omega
  refine call_of2 (fl := [xrv o0, .int x1, .int x2]) (Ls := [xrv o0, .int x1, .int x2, .float 0, .float 0, .float 0, .float 0, .float 0]) m74 (by simp [xfl, xrv_cat, xc_i, xc_j, xc_a, xc_f]) (Nat.le_of_ble_eq_true rfl) rfl ?_
  unfold fn74 at hf
  refine sh_aload (i' := 0) (n := 1) i74_0 (Or.inr ⟨rfl, by decide⟩) rfl ?_
  obtain ⟨a_1, ea_1, hf⟩ := x_bind hf
  refine sh_getR i74_1 f74_29 ea_1 ?_
  refine ev_do i74_4 rfl ?_
  refine ev_do i74_5 rfl ?_
  obtain ⟨_, eu_3, hf⟩ := x_bind hf
  obtain ⟨r_2, er_2, hf⟩ := x_bind hf
  refine sh_inv (as := [.int x2, .int x1]) (z := (some (.int r_2.1), r_2.2)) i74_6 v74_55 (Or.inl ⟨by decide, rfl⟩) m106 rfl (Nat.le_of_ble_eq_true rfl) eu_3 (fn106_call (by omega) er_2) ?_
  refine sh_istore (i' := 3) (n := 1) i74_9 (Or.inr ⟨rfl, by decide⟩) (xokst_of (Nat.le_of_ble_eq_true rfl) rfl) ?_
  refine ev_do i74_10 rfl ?_
  refine sh_istore (i' := 4) (n := 2) i74_11 (Or.inl rfl) (xokst_of (Nat.le_of_ble_eq_true rfl) rfl) ?_
  refine ev_do i74_13 rfl ?_
  refine sh_istore (i' := 5) (n := 2) i74_14 (Or.inl rfl) (xokst_of (Nat.le_of_ble_eq_true rfl) rfl) ?_
  exact l74_16_ok hd xFuel rfl rfl hf
end
section
def j67_129  (o0 : Option Nat) (x1 : Int32) (x2 : Int32) (x3 : Int32) (x4 : Int32) (x5 : Int32) (h : xH) : Option xH := some h
theorem j67_129_ok {xs : List Int32} {d : Nat} (hd : 7 ≤ d) {o0 : Option Nat} {x1 : Int32} {x2 : Int32} {x3 : Int32} {x4 : Int32} {x5 : Int32} {h : xH} {r : xH} (hf : j67_129 o0 x1 x2 x3 x4 x5 h = some r) : xEv (xTa xs) d 67 (129, [xrv o0, .int x1, .int x2, .int x3, .int x4, .int x5], [], h) (none, r) := by
  unfold j67_129 at hf
  obtain rfl := Option.some.inj hf
  exact sh_vret i67_129 m67 rfl
def j67_89  (o0 : Option Nat) (x1 : Int32) (x2 : Int32) (x3 : Int32) (x4 : Int32) (x5 : Int32) (h : xH) : Option xH := (xcv h o0 7).bind fun _ => (fn66 o0 1 x1 h).bind fun h_1 => (xgR h_1 o0 7 3).bind fun a_2 => (if a_2 = none then j67_129 o0 x1 x2 x3 x4 x5 h_1 else (xgR h_1 o0 7 3).bind fun a_4 => (xpF h_1 a_4 0 3 .int (.int (x3 / 2))).bind fun h_5 => (xgR h_5 o0 7 3).bind fun a_6 => (xpF h_5 a_6 0 8 .boolean (.int x4)).bind fun h_7 => (xcv h_7 o0 7).bind fun _ => (fn74 o0 (x1 + 1) x2 h_7).bind fun h_8 => j67_129 o0 x1 x2 x3 x4 x5 h_8)
theorem j67_89_ok {xs : List Int32} {d : Nat} (hd : 7 ≤ d) {o0 : Option Nat} {x1 : Int32} {x2 : Int32} {x3 : Int32} {x4 : Int32} {x5 : Int32} {h : xH} {r : xH} (hf : j67_89 o0 x1 x2 x3 x4 x5 h = some r) : xEv (xTa xs) d 67 (89, [xrv o0, .int x1, .int x2, .int x3, .int x4, .int x5], [], h) (none, r) := by
  unfold j67_89 at hf
  refine sh_aload (i' := 0) (n := 1) i67_89 (Or.inr ⟨rfl, by decide⟩) rfl ?_
  refine ev_do i67_90 rfl ?_
  refine ev_do i67_91 rfl ?_
  obtain ⟨_, eu_10, hf⟩ := x_bind hf
  obtain ⟨h_1, eh_1, hf⟩ := x_bind hf
  refine sh_inv (as := [.int x1, .int 1]) (z := (none, h_1)) i67_92 v67_112 (Or.inl ⟨by decide, rfl⟩) m66 rfl (Nat.le_of_ble_eq_true rfl) eu_10 (fn66_call (by omega) eh_1) ?_
  refine sh_aload (i' := 0) (n := 1) i67_95 (Or.inr ⟨rfl, by decide⟩) rfl ?_
  obtain ⟨a_2, ea_2, hf⟩ := x_bind hf
  refine sh_getR i67_96 f67_30 ea_2 ?_
  refine sh_null (t := 129) i67_99 rfl (fun c_3 => ?_) (fun c_3 => ?_)
  · replace hf := x_pos c_3 hf
    exact j67_129_ok hd hf
  · replace hf := x_neg c_3 hf
    refine sh_aload (i' := 0) (n := 1) i67_102 (Or.inr ⟨rfl, by decide⟩) rfl ?_
    obtain ⟨a_4, ea_4, hf⟩ := x_bind hf
    refine sh_getR i67_103 f67_30 ea_4 ?_
    refine ev_do i67_106 rfl ?_
    refine ev_do i67_107 rfl ?_
    refine sh_div i67_108 (by decide) ?_
    obtain ⟨h_5, eh_5, hf⟩ := x_bind hf
    refine sh_put i67_109 f67_100 (by decide) rfl eh_5 ?_
    refine sh_aload (i' := 0) (n := 1) i67_112 (Or.inr ⟨rfl, by decide⟩) rfl ?_
    obtain ⟨a_6, ea_6, hf⟩ := x_bind hf
    refine sh_getR i67_113 f67_30 ea_6 ?_
    refine ev_do i67_116 rfl ?_
    obtain ⟨h_7, eh_7, hf⟩ := x_bind hf
    refine sh_put i67_118 f67_115 (by decide) rfl eh_7 ?_
    refine sh_aload (i' := 0) (n := 1) i67_121 (Or.inr ⟨rfl, by decide⟩) rfl ?_
    refine ev_do i67_122 rfl ?_
    refine ev_do i67_123 rfl ?_
    refine ev_do i67_124 rfl ?_
    refine ev_do i67_125 rfl ?_
    obtain ⟨_, eu_9, hf⟩ := x_bind hf
    obtain ⟨h_8, eh_8, hf⟩ := x_bind hf
    refine sh_inv (as := [.int x2, .int (x1 + 1)]) (z := (none, h_8)) i67_126 v67_118 (Or.inl ⟨by decide, rfl⟩) m74 rfl (Nat.le_of_ble_eq_true rfl) eu_9 (fn74_call (by omega) eh_8) ?_
    exact j67_129_ok hd hf
def j67_83  (o0 : Option Nat) (x1 : Int32) (x2 : Int32) (x3 : Int32) (x4 : Int32) (x5 : Int32) (h : xH) : Option xH := (xcv h o0 7).bind fun _ => (fn62 o0 x1 3 h).bind fun h_1 => j67_89 o0 x1 x2 x3 x4 x5 h_1
theorem j67_83_ok {xs : List Int32} {d : Nat} (hd : 7 ≤ d) {o0 : Option Nat} {x1 : Int32} {x2 : Int32} {x3 : Int32} {x4 : Int32} {x5 : Int32} {h : xH} {r : xH} (hf : j67_83 o0 x1 x2 x3 x4 x5 h = some r) : xEv (xTa xs) d 67 (83, [xrv o0, .int x1, .int x2, .int x3, .int x4, .int x5], [], h) (none, r) := by
  unfold j67_83 at hf
  refine sh_aload (i' := 0) (n := 1) i67_83 (Or.inr ⟨rfl, by decide⟩) rfl ?_
  refine ev_do i67_84 rfl ?_
  refine ev_do i67_85 rfl ?_
  obtain ⟨_, eu_2, hf⟩ := x_bind hf
  obtain ⟨h_1, eh_1, hf⟩ := x_bind hf
  refine sh_inv (as := [.int 3, .int x1]) (z := (none, h_1)) i67_86 v67_81 (Or.inl ⟨by decide, rfl⟩) m62 rfl (Nat.le_of_ble_eq_true rfl) eu_2 (fn62_call (by omega) eh_1) ?_
  exact j67_89_ok hd hf
def j67_69  (o0 : Option Nat) (x1 : Int32) (x2 : Int32) (x3 : Int32) (x4 : Int32) (x5 : Int32) (h : xH) : Option xH := (if (x3 &&& 1) = 0 then (if (x3 / 2) ≤ x5 then j67_89 o0 x1 x2 x3 x4 x5 h else j67_83 o0 x1 x2 x3 x4 x5 h) else j67_83 o0 x1 x2 x3 x4 x5 h)
theorem j67_69_ok {xs : List Int32} {d : Nat} (hd : 7 ≤ d) {o0 : Option Nat} {x1 : Int32} {x2 : Int32} {x3 : Int32} {x4 : Int32} {x5 : Int32} {h : xH} {r : xH} (hf : j67_69 o0 x1 x2 x3 x4 x5 h = some r) : xEv (xTa xs) d 67 (69, [xrv o0, .int x1, .int x2, .int x3, .int x4, .int x5], [], h) (none, r) := by
  unfold j67_69 at hf
  refine ev_do i67_69 rfl ?_
  refine ev_do i67_70 rfl ?_
  refine ev_do i67_71 rfl ?_
  refine ev_if (t := 83) i67_72 rfl (fun c_1 => ?_) (fun c_1 => ?_)
  · replace hf := x_neg (show ¬ (x3 &&& 1) = 0 from c_1) hf
    exact j67_83_ok hd hf
  · replace hf := x_pos (show (x3 &&& 1) = 0 from Decidable.byContradiction (fun h9 => c_1 h9)) hf
    refine ev_do i67_75 rfl ?_
    refine ev_do i67_76 rfl ?_
    refine sh_div i67_77 (by decide) ?_
    refine ev_do i67_78 rfl ?_
    refine ev_icmp (t := 89) i67_80 rfl (fun c_2 => ?_) (fun c_2 => ?_)
    · replace hf := x_pos (show (x3 / 2) ≤ x5 from c_2) hf
      exact j67_89_ok hd hf
    · replace hf := x_neg (show ¬ (x3 / 2) ≤ x5 from c_2) hf
      exact j67_83_ok hd hf
def j67_54  (o0 : Option Nat) (x1 : Int32) (x2 : Int32) (x3 : Int32) (x4 : Int32) (s0 : Int32) (h : xH) : Option xH := (xcv h o0 7).bind fun _ => (fn65 o0 h).bind fun r_1 => (if r_1.1 = 0 then j67_69 o0 x1 x2 x3 x4 s0 r_1.2 else (xcv r_1.2 o0 7).bind fun _ => (fn62 o0 x1 2 r_1.2).bind fun h_3 => j67_69 o0 x1 x2 x3 x4 s0 h_3)
theorem j67_54_ok {xs : List Int32} {d : Nat} (hd : 7 ≤ d) {u5 : Value} {o0 : Option Nat} {x1 : Int32} {x2 : Int32} {x3 : Int32} {x4 : Int32} {s0 : Int32} {h : xH} {r : xH} (hu5 : u5.category = 1) (hf : j67_54 o0 x1 x2 x3 x4 s0 h = some r) : xEv (xTa xs) d 67 (54, [xrv o0, .int x1, .int x2, .int x3, .int x4, u5], [.int s0], h) (none, r) := by
  unfold j67_54 at hf
  refine sh_istore (i' := 5) (n := 2) i67_54 (Or.inl rfl) (xokst_of (Nat.le_of_ble_eq_true rfl) rfl) ?_
  refine sh_aload (i' := 0) (n := 1) i67_56 (Or.inr ⟨rfl, by decide⟩) rfl ?_
  obtain ⟨_, eu_5, hf⟩ := x_bind hf
  obtain ⟨r_1, er_1, hf⟩ := x_bind hf
  refine sh_inv (as := []) (z := (some (.int r_1.1), r_1.2)) i67_57 v67_108 (Or.inl ⟨by decide, rfl⟩) m65 rfl (Nat.le_of_ble_eq_true rfl) eu_5 (fn65_call (by omega) er_1) ?_
  refine ev_if (t := 69) i67_60 rfl (fun c_2 => ?_) (fun c_2 => ?_)
  · replace hf := x_pos (show r_1.1 = 0 from c_2) hf
    exact j67_69_ok hd hf
  · replace hf := x_neg (show ¬ r_1.1 = 0 from c_2) hf
    refine sh_aload (i' := 0) (n := 1) i67_63 (Or.inr ⟨rfl, by decide⟩) rfl ?_
    refine ev_do i67_64 rfl ?_
    refine ev_do i67_65 rfl ?_
    obtain ⟨_, eu_4, hf⟩ := x_bind hf
    obtain ⟨h_3, eh_3, hf⟩ := x_bind hf
    refine sh_inv (as := [.int 2, .int x1]) (z := (none, h_3)) i67_66 v67_81 (Or.inl ⟨by decide, rfl⟩) m62 rfl (Nat.le_of_ble_eq_true rfl) eu_4 (fn62_call (by omega) eh_3) ?_
    exact j67_69_ok hd hf
def j67_30  (o0 : Option Nat) (x1 : Int32) (x2 : Int32) (x3 : Int32) (s0 : Int32) (h : xH) : Option xH := (if s0 = 0 then j67_54 o0 x1 x2 x3 s0 0 h else (xgR h o0 7 3).bind fun a_2 => (xgI h a_2 0 3).bind fun v_3 => j67_54 o0 x1 x2 x3 s0 (xmin 2 (v_3 + 1)) h)
theorem j67_30_ok {xs : List Int32} {d : Nat} (hd : 7 ≤ d) {u4 : Value} {u5 : Value} {o0 : Option Nat} {x1 : Int32} {x2 : Int32} {x3 : Int32} {s0 : Int32} {h : xH} {r : xH} (hu4 : u4.category = 1) (hu5 : u5.category = 1) (hf : j67_30 o0 x1 x2 x3 s0 h = some r) : xEv (xTa xs) d 67 (30, [xrv o0, .int x1, .int x2, .int x3, u4, u5], [.int s0], h) (none, r) := by
  unfold j67_30 at hf
  refine sh_istore (i' := 4) (n := 2) i67_30 (Or.inl rfl) (xokst_of (Nat.le_of_ble_eq_true rfl) rfl) ?_
  refine ev_do i67_32 rfl ?_
  refine ev_if (t := 53) i67_34 rfl (fun c_1 => ?_) (fun c_1 => ?_)
  · replace hf := x_pos (show s0 = 0 from c_1) hf
    refine ev_do i67_53 rfl ?_
    exact j67_54_ok hd hu5 hf
  · replace hf := x_neg (show ¬ s0 = 0 from c_1) hf
    refine ev_do i67_37 rfl ?_
    refine sh_aload (i' := 0) (n := 1) i67_38 (Or.inr ⟨rfl, by decide⟩) rfl ?_
    obtain ⟨a_2, ea_2, hf⟩ := x_bind hf
    refine sh_getR i67_39 f67_30 ea_2 ?_
    obtain ⟨v_3, ev_3, hf⟩ := x_bind hf
    refine sh_getI i67_42 f67_100 ev_3 ?_
    refine ev_do i67_45 rfl ?_
    refine ev_do i67_46 rfl ?_
    refine sh_min i67_47 v67_103 (Nat.le_of_ble_eq_true rfl) ?_
    refine sh_goto (t := 54) i67_50 rfl ?_
    exact j67_54_ok hd hu5 hf
def j67_29  (o0 : Option Nat) (x1 : Int32) (x2 : Int32) (x3 : Int32) (h : xH) : Option xH := j67_30 o0 x1 x2 x3 0 h
theorem j67_29_ok {xs : List Int32} {d : Nat} (hd : 7 ≤ d) {u4 : Value} {u5 : Value} {o0 : Option Nat} {x1 : Int32} {x2 : Int32} {x3 : Int32} {h : xH} {r : xH} (hu4 : u4.category = 1) (hu5 : u5.category = 1) (hf : j67_29 o0 x1 x2 x3 h = some r) : xEv (xTa xs) d 67 (29, [xrv o0, .int x1, .int x2, .int x3, u4, u5], [], h) (none, r) := by
  unfold j67_29 at hf
  refine ev_do i67_29 rfl ?_
  exact j67_30_ok hd hu4 hu5 hf
def fn67 (o0 : Option Nat) (x1 : Int32) (x2 : Int32) (x3 : Int32) (h : xH) : Option xH := (xgR h o0 7 3).bind fun a_1 => (if a_1 = none then j67_29 o0 x1 x2 x3 h else (xgR h o0 7 3).bind fun a_3 => (xgI h a_3 0 1).bind fun v_4 => (if v_4 = 1 then (xgI h o0 7 4).bind fun v_6 => (if v_6 = 0 then j67_30 o0 x1 x2 x3 1 h else j67_29 o0 x1 x2 x3 h) else j67_29 o0 x1 x2 x3 h))
theorem fn67_call {xs : List Int32} {d : Nat} (hd : 8 ≤ d) {o0 : Option Nat} {x1 : Int32} {x2 : Int32} {x3 : Int32} {h : xH} {r : xH} (hf : fn67 o0 x1 x2 x3 h = some r) : xCall (xTa xs) d 67 [xrv o0, .int x1, .int x2, .int x3] h (none, r) := by
  obtain ⟨d, rfl⟩ : ∃ d2, d = d2 + 1 := ⟨d - 1, by omega⟩
  replace hd : 7 ≤ d := by omega
  refine call_of2 (fl := [xrv o0, .int x1, .int x2, .int x3]) (Ls := [xrv o0, .int x1, .int x2, .int x3, .float 0, .float 0]) m67 (by simp [xfl, xrv_cat, xc_i, xc_j, xc_a, xc_f]) (Nat.le_of_ble_eq_true rfl) rfl ?_
  unfold fn67 at hf
  refine sh_aload (i' := 0) (n := 1) i67_0 (Or.inr ⟨rfl, by decide⟩) rfl ?_
  obtain ⟨a_1, ea_1, hf⟩ := x_bind hf
  refine sh_getR i67_1 f67_30 ea_1 ?_
  refine sh_null (t := 29) i67_4 rfl (fun c_2 => ?_) (fun c_2 => ?_)
  · replace hf := x_pos c_2 hf
    exact j67_29_ok hd rfl rfl hf
  · replace hf := x_neg c_2 hf
    refine sh_aload (i' := 0) (n := 1) i67_7 (Or.inr ⟨rfl, by decide⟩) rfl ?_
    obtain ⟨a_3, ea_3, hf⟩ := x_bind hf
    refine sh_getR i67_8 f67_30 ea_3 ?_
    obtain ⟨v_4, ev_4, hf⟩ := x_bind hf
    refine sh_getI i67_11 f67_84 ev_4 ?_
    refine ev_do i67_14 rfl ?_
    refine ev_icmp (t := 29) i67_15 rfl (fun c_5 => ?_) (fun c_5 => ?_)
    · replace hf := x_neg (show ¬ v_4 = 1 from c_5) hf
      exact j67_29_ok hd rfl rfl hf
    · replace hf := x_pos (show v_4 = 1 from Decidable.byContradiction (fun h9 => c_5 h9)) hf
      refine sh_aload (i' := 0) (n := 1) i67_18 (Or.inr ⟨rfl, by decide⟩) rfl ?_
      obtain ⟨v_6, ev_6, hf⟩ := x_bind hf
      refine sh_getI i67_19 f67_34 ev_6 ?_
      refine ev_if (t := 29) i67_22 rfl (fun c_7 => ?_) (fun c_7 => ?_)
      · replace hf := x_neg (show ¬ v_6 = 0 from c_7) hf
        exact j67_29_ok hd rfl rfl hf
      · replace hf := x_pos (show v_6 = 0 from Decidable.byContradiction (fun h9 => c_7 h9)) hf
        refine ev_do i67_25 rfl ?_
        refine sh_goto (t := 30) i67_26 rfl ?_
        exact j67_30_ok hd rfl rfl hf
end
section
def j69_108  (o0 : Option Nat) (x1 : Int32) (x2 : Int32) (x3 : Int32) (x4 : Int32) (s0 : Int32) (h : xH) : Option (Int32 × xH) := (if s0 &&& 1 = s0 then some (s0, h) else none)
theorem j69_108_ok {xs : List Int32} {d : Nat} (hd : 6 ≤ d) {o0 : Option Nat} {x1 : Int32} {x2 : Int32} {x3 : Int32} {x4 : Int32} {s0 : Int32} {h : xH} {r : (Int32 × xH)} (hf : j69_108 o0 x1 x2 x3 x4 s0 h = some r) : xEv (xTa xs) d 69 (108, [xrv o0, .int x1, .int x2, .int x3, .int x4], [.int s0], h) (some (.int r.1), r.2) := by
  unfold j69_108 at hf
  by_cases c_1 : s0 &&& 1 = s0
  · replace hf := x_pos c_1 hf
    obtain rfl := Option.some.inj hf
    exact sh_iret i69_108 m69 rfl (congrArg Value.int c_1)
  · replace hf := x_neg c_1 hf
    cases hf
def j69_36  (o0 : Option Nat) (x1 : Int32) (x2 : Int32) (h : xH) : Option (Int32 × xH) := some (0, h)
theorem j69_36_ok {xs : List Int32} {d : Nat} (hd : 6 ≤ d) {u3 : Value} {u4 : Value} {o0 : Option Nat} {x1 : Int32} {x2 : Int32} {h : xH} {r : (Int32 × xH)} (hu3 : u3.category = 1) (hu4 : u4.category = 1) (hf : j69_36 o0 x1 x2 h = some r) : xEv (xTa xs) d 69 (36, [xrv o0, .int x1, .int x2, u3, u4], [], h) (some (.int r.1), r.2) := by
  unfold j69_36 at hf
  refine ev_do i69_36 rfl ?_
  obtain rfl := Option.some.inj hf
  exact sh_iret i69_37 m69 rfl (by decide)
def fn69 (o0 : Option Nat) (x1 : Int32) (x2 : Int32) (h : xH) : Option (Int32 × xH) := (xgR h o0 7 2).bind fun a_1 => (xcv h a_1 9).bind fun _ => (fn104 a_1 x1 0 h).bind fun r_2 => (if r_2.1 = 0 then j69_36 o0 x1 x2 r_2.2 else (xgR r_2.2 o0 7 1).bind fun a_4 => (xgR r_2.2 a_4 1 5).bind fun a_5 => (if a_5 = none then j69_36 o0 x1 x2 r_2.2 else (xgR r_2.2 o0 7 1).bind fun a_7 => (xgR r_2.2 a_7 1 5).bind fun a_8 => (xcv r_2.2 a_8 2).bind fun _ => (fn12 a_8 r_2.2).bind fun r_9 => (if r_9.1 = 0 then (xgR r_9.2 o0 7 2).bind fun a_11 => (xqL 0).bind fun v_12 => (xcv r_9.2 a_11 9).bind fun _ => (fn106 a_11 (x1 + v_12) x2 r_9.2).bind fun r_13 => (if x2 ≤ r_13.1 then (xgR r_13.2 o0 7 2).bind fun a_15 => (xgR r_13.2 o0 7 2).bind fun a_16 => (xgI r_13.2 a_16 9 1).bind fun v_17 => (xcv r_13.2 a_15 9).bind fun _ => (fn105 a_15 10 (x2 + 1) v_17 r_13.2).bind fun r_18 => (xgR r_18.2 o0 7 2).bind fun a_19 => (xcv r_18.2 a_19 9).bind fun _ => (fn106 a_19 (x2 + 1) r_18.1 r_18.2).bind fun r_20 => (xcv r_20.2 o0 7).bind fun _ => (fn64 o0 r_20.1 r_18.1 r_20.2).bind fun r_21 => (if r_21.1 = 3 then j69_108 o0 x1 x2 r_18.1 r_20.1 0 r_21.2 else j69_108 o0 x1 x2 r_18.1 r_20.1 1 r_21.2) else some (0, r_13.2)) else j69_36 o0 x1 x2 r_9.2)))
theorem fn69_call {xs : List Int32} {d : Nat} (hd : 7 ≤ d) {o0 : Option Nat} {x1 : Int32} {x2 : Int32} {h : xH} {r : (Int32 × xH)} (hf : fn69 o0 x1 x2 h = some r) : xCall (xTa xs) d 69 [xrv o0, .int x1, .int x2] h (some (.int r.1), r.2) := by
  obtain ⟨d, rfl⟩ : ∃ d2, d = d2 + 1 := ⟨d - 1, by omega⟩
  replace hd : 6 ≤ d := by omega
  refine call_of2 (fl := [xrv o0, .int x1, .int x2]) (Ls := [xrv o0, .int x1, .int x2, .float 0, .float 0]) m69 (by simp [xfl, xrv_cat, xc_i, xc_j, xc_a, xc_f]) (Nat.le_of_ble_eq_true rfl) rfl ?_
  unfold fn69 at hf
  refine sh_aload (i' := 0) (n := 1) i69_0 (Or.inr ⟨rfl, by decide⟩) rfl ?_
  obtain ⟨a_1, ea_1, hf⟩ := x_bind hf
  refine sh_getR i69_1 f69_29 ea_1 ?_
  refine ev_do i69_4 rfl ?_
  refine ev_ldc (k := 0) i69_5 (Or.inl ⟨rfl, rfl⟩) s69_132 (by decide) ?_
  obtain ⟨_, eu_28, hf⟩ := x_bind hf
  obtain ⟨r_2, er_2, hf⟩ := x_bind hf
  refine sh_inv (as := [.retAddr (0 + 1), .int x1]) (z := (some (.int r_2.1), r_2.2)) i69_7 v69_134 (Or.inl ⟨by decide, rfl⟩) m104 rfl (Nat.le_of_ble_eq_true rfl) eu_28 (fn104_call (by omega) er_2) ?_
  refine ev_if (t := 36) i69_10 rfl (fun c_3 => ?_) (fun c_3 => ?_)
  · replace hf := x_pos (show r_2.1 = 0 from c_3) hf
    exact j69_36_ok hd rfl rfl hf
  · replace hf := x_neg (show ¬ r_2.1 = 0 from c_3) hf
    refine sh_aload (i' := 0) (n := 1) i69_13 (Or.inr ⟨rfl, by decide⟩) rfl ?_
    obtain ⟨a_4, ea_4, hf⟩ := x_bind hf
    refine sh_getR i69_14 f69_20 ea_4 ?_
    obtain ⟨a_5, ea_5, hf⟩ := x_bind hf
    refine sh_getR i69_17 f69_138 ea_5 ?_
    refine sh_null (t := 36) i69_20 rfl (fun c_6 => ?_) (fun c_6 => ?_)
    · replace hf := x_pos c_6 hf
      exact j69_36_ok hd rfl rfl hf
    · replace hf := x_neg c_6 hf
      refine sh_aload (i' := 0) (n := 1) i69_23 (Or.inr ⟨rfl, by decide⟩) rfl ?_
      obtain ⟨a_7, ea_7, hf⟩ := x_bind hf
      refine sh_getR i69_24 f69_20 ea_7 ?_
      obtain ⟨a_8, ea_8, hf⟩ := x_bind hf
      refine sh_getR i69_27 f69_138 ea_8 ?_
      obtain ⟨_, eu_27, hf⟩ := x_bind hf
      obtain ⟨r_9, er_9, hf⟩ := x_bind hf
      refine sh_inv (as := []) (z := (some (.int r_9.1), r_9.2)) i69_30 v69_142 (Or.inl ⟨by decide, rfl⟩) m12 rfl (Nat.le_of_ble_eq_true rfl) eu_27 (fn12_call (by omega) er_9) ?_
      refine ev_if (t := 38) i69_33 rfl (fun c_10 => ?_) (fun c_10 => ?_)
      · replace hf := x_pos (show r_9.1 = 0 from c_10) hf
        refine sh_aload (i' := 0) (n := 1) i69_38 (Or.inr ⟨rfl, by decide⟩) rfl ?_
        obtain ⟨a_11, ea_11, hf⟩ := x_bind hf
        refine sh_getR i69_39 f69_29 ea_11 ?_
        refine ev_do i69_42 rfl ?_
        refine ev_ldc (k := 0) i69_43 (Or.inl ⟨rfl, rfl⟩) s69_132 (by decide) ?_
        obtain ⟨v_12, ev_12, hf⟩ := x_bind hf
        refine sh_tlen i69_45 v69_147 (by simp [xcat, xrv_cat, xc_i, xc_j, xc_a, xc_f]) (by omega) ev_12 ?_
        refine ev_do i69_48 rfl ?_
        refine ev_do i69_49 rfl ?_
        obtain ⟨_, eu_26, hf⟩ := x_bind hf
        obtain ⟨r_13, er_13, hf⟩ := x_bind hf
        refine sh_inv (as := [.int x2, .int (x1 + v_12)]) (z := (some (.int r_13.1), r_13.2)) i69_50 v69_55 (Or.inl ⟨by decide, rfl⟩) m106 rfl (Nat.le_of_ble_eq_true rfl) eu_26 (fn106_call (by omega) er_13) ?_
        refine ev_do i69_53 rfl ?_
        refine ev_icmp (t := 59) i69_54 rfl (fun c_14 => ?_) (fun c_14 => ?_)
        · replace hf := x_pos (show x2 ≤ r_13.1 from c_14) hf
          refine sh_aload (i' := 0) (n := 1) i69_59 (Or.inr ⟨rfl, by decide⟩) rfl ?_
          obtain ⟨a_15, ea_15, hf⟩ := x_bind hf
          refine sh_getR i69_60 f69_29 ea_15 ?_
          refine ev_do i69_63 rfl ?_
          refine ev_do i69_65 rfl ?_
          refine ev_do i69_66 rfl ?_
          refine ev_do i69_67 rfl ?_
          refine sh_aload (i' := 0) (n := 1) i69_68 (Or.inr ⟨rfl, by decide⟩) rfl ?_
          obtain ⟨a_16, ea_16, hf⟩ := x_bind hf
          refine sh_getR i69_69 f69_29 ea_16 ?_
          obtain ⟨v_17, ev_17, hf⟩ := x_bind hf
          refine sh_getI i69_72 f69_48 ev_17 ?_
          obtain ⟨_, eu_25, hf⟩ := x_bind hf
          obtain ⟨r_18, er_18, hf⟩ := x_bind hf
          refine sh_inv (as := [.int v_17, .int (x2 + 1), .int 10]) (z := (some (.int r_18.1), r_18.2)) i69_75 v69_51 (Or.inl ⟨by decide, rfl⟩) m105 rfl (Nat.le_of_ble_eq_true rfl) eu_25 (fn105_call (by omega) er_18) ?_
          refine sh_istore (i' := 3) (n := 1) i69_78 (Or.inr ⟨rfl, by decide⟩) (xokst_of (Nat.le_of_ble_eq_true rfl) rfl) ?_
          refine sh_aload (i' := 0) (n := 1) i69_79 (Or.inr ⟨rfl, by decide⟩) rfl ?_
          obtain ⟨a_19, ea_19, hf⟩ := x_bind hf
          refine sh_getR i69_80 f69_29 ea_19 ?_
          refine ev_do i69_83 rfl ?_
          refine ev_do i69_84 rfl ?_
          refine ev_do i69_85 rfl ?_
          refine ev_do i69_86 rfl ?_
          obtain ⟨_, eu_24, hf⟩ := x_bind hf
          obtain ⟨r_20, er_20, hf⟩ := x_bind hf
          refine sh_inv (as := [.int r_18.1, .int (x2 + 1)]) (z := (some (.int r_20.1), r_20.2)) i69_87 v69_55 (Or.inl ⟨by decide, rfl⟩) m106 rfl (Nat.le_of_ble_eq_true rfl) eu_24 (fn106_call (by omega) er_20) ?_
          refine sh_istore (i' := 4) (n := 2) i69_90 (Or.inl rfl) (xokst_of (Nat.le_of_ble_eq_true rfl) rfl) ?_
          refine sh_aload (i' := 0) (n := 1) i69_92 (Or.inr ⟨rfl, by decide⟩) rfl ?_
          refine ev_do i69_93 rfl ?_
          refine ev_do i69_95 rfl ?_
          obtain ⟨_, eu_23, hf⟩ := x_bind hf
          obtain ⟨r_21, er_21, hf⟩ := x_bind hf
          refine sh_inv (as := [.int r_18.1, .int r_20.1]) (z := (some (.int r_21.1), r_21.2)) i69_96 v69_59 (Or.inl ⟨by decide, rfl⟩) m64 rfl (Nat.le_of_ble_eq_true rfl) eu_23 (fn64_call (by omega) er_21) ?_
          refine ev_do i69_99 rfl ?_
          refine ev_icmp (t := 107) i69_100 rfl (fun c_22 => ?_) (fun c_22 => ?_)
          · replace hf := x_pos (show r_21.1 = 3 from c_22) hf
            refine ev_do i69_107 rfl ?_
            exact j69_108_ok hd hf
          · replace hf := x_neg (show ¬ r_21.1 = 3 from c_22) hf
            refine ev_do i69_103 rfl ?_
            refine sh_goto (t := 108) i69_104 rfl ?_
            exact j69_108_ok hd hf
        · replace hf := x_neg (show ¬ x2 ≤ r_13.1 from c_14) hf
          refine ev_do i69_57 rfl ?_
          obtain rfl := Option.some.inj hf
          exact sh_iret i69_58 m69 rfl (by decide)
      · replace hf := x_neg (show ¬ r_9.1 = 0 from c_10) hf
        exact j69_36_ok hd rfl rfl hf
end
section
def j68_128  (o0 : Option Nat) (x1 : Int32) (x2 : Int32) (x3 : Int32) (x4 : Int32) (h : xH) : Option xH := some h
theorem j68_128_ok {xs : List Int32} {d : Nat} (hd : 7 ≤ d) {o0 : Option Nat} {x1 : Int32} {x2 : Int32} {x3 : Int32} {x4 : Int32} {h : xH} {r : xH} (hf : j68_128 o0 x1 x2 x3 x4 h = some r) : xEv (xTa xs) d 68 (128, [xrv o0, .int x1, .int x2, .int x3, .int x4], [], h) (none, r) := by
  unfold j68_128 at hf
  obtain rfl := Option.some.inj hf
  exact sh_vret i68_128 m68 rfl
def j68_117  (o0 : Option Nat) (x1 : Int32) (x2 : Int32) (x3 : Int32) (x4 : Int32) (h : xH) : Option xH := (if x4 = 0 then (xcv h o0 7).bind fun _ => (fn74 o0 x1 x2 h).bind fun h_2 => j68_128 o0 x1 x2 x3 x4 h_2 else j68_128 o0 x1 x2 x3 x4 h)
theorem j68_117_ok {xs : List Int32} {d : Nat} (hd : 7 ≤ d) {o0 : Option Nat} {x1 : Int32} {x2 : Int32} {x3 : Int32} {x4 : Int32} {h : xH} {r : xH} (hf : j68_117 o0 x1 x2 x3 x4 h = some r) : xEv (xTa xs) d 68 (117, [xrv o0, .int x1, .int x2, .int x3, .int x4], [], h) (none, r) := by
  unfold j68_117 at hf
  refine ev_do i68_117 rfl ?_
  refine ev_if (t := 128) i68_119 rfl (fun c_1 => ?_) (fun c_1 => ?_)
  · replace hf := x_neg (show ¬ x4 = 0 from c_1) hf
    exact j68_128_ok hd hf
  · replace hf := x_pos (show x4 = 0 from Decidable.byContradiction (fun h9 => c_1 h9)) hf
    refine sh_aload (i' := 0) (n := 1) i68_122 (Or.inr ⟨rfl, by decide⟩) rfl ?_
    refine ev_do i68_123 rfl ?_
    refine ev_do i68_124 rfl ?_
    obtain ⟨_, eu_3, hf⟩ := x_bind hf
    obtain ⟨h_2, eh_2, hf⟩ := x_bind hf
    refine sh_inv (as := [.int x2, .int x1]) (z := (none, h_2)) i68_125 v68_118 (Or.inl ⟨by decide, rfl⟩) m74 rfl (Nat.le_of_ble_eq_true rfl) eu_3 (fn74_call (by omega) eh_2) ?_
    exact j68_128_ok hd hf
def j68_113  (o0 : Option Nat) (x1 : Int32) (x2 : Int32) (x3 : Int32) (x4 : Int32) (s0 : Option Nat) (s1 : Int32) (h : xH) : Option xH := (xcv h s0 7).bind fun _ => (fn66 s0 s1 x1 h).bind fun h_1 => j68_117 o0 x1 x2 x3 x4 h_1
theorem j68_113_ok {xs : List Int32} {d : Nat} (hd : 7 ≤ d) {o0 : Option Nat} {x1 : Int32} {x2 : Int32} {x3 : Int32} {x4 : Int32} {s0 : Option Nat} {s1 : Int32} {h : xH} {r : xH} (hf : j68_113 o0 x1 x2 x3 x4 s0 s1 h = some r) : xEv (xTa xs) d 68 (113, [xrv o0, .int x1, .int x2, .int x3, .int x4], [.int s1, xrv s0], h) (none, r) := by
  unfold j68_113 at hf
  refine ev_do i68_113 rfl ?_
  obtain ⟨_, eu_2, hf⟩ := x_bind hf
  obtain ⟨h_1, eh_1, hf⟩ := x_bind hf
  refine sh_inv (as := [.int x1, .int s1]) (z := (none, h_1)) i68_114 v68_112 (Or.inl ⟨by decide, rfl⟩) m66 rfl (Nat.le_of_ble_eq_true rfl) eu_2 (fn66_call (by omega) eh_1) ?_
  exact j68_117_ok hd hf
def j68_94  (o0 : Option Nat) (x1 : Int32) (x2 : Int32) (x3 : Int32) (x4 : Int32) (h : xH) : Option xH := (xgI h o0 7 4).bind fun v_1 => (if v_1 = 0 then j68_117 o0 x1 x2 x3 x4 h else (if x4 = 0 then j68_113 o0 x1 x2 x3 x4 o0 0 h else j68_113 o0 x1 x2 x3 x4 o0 7 h))
theorem j68_94_ok {xs : List Int32} {d : Nat} (hd : 7 ≤ d) {o0 : Option Nat} {x1 : Int32} {x2 : Int32} {x3 : Int32} {x4 : Int32} {h : xH} {r : xH} (hf : j68_94 o0 x1 x2 x3 x4 h = some r) : xEv (xTa xs) d 68 (94, [xrv o0, .int x1, .int x2, .int x3, .int x4], [], h) (none, r) := by
  unfold j68_94 at hf
  refine sh_aload (i' := 0) (n := 1) i68_94 (Or.inr ⟨rfl, by decide⟩) rfl ?_
  obtain ⟨v_1, ev_1, hf⟩ := x_bind hf
  refine sh_getI i68_95 f68_34 ev_1 ?_
  refine ev_if (t := 117) i68_98 rfl (fun c_2 => ?_) (fun c_2 => ?_)
  · replace hf := x_pos (show v_1 = 0 from c_2) hf
    exact j68_117_ok hd hf
  · replace hf := x_neg (show ¬ v_1 = 0 from c_2) hf
    refine sh_aload (i' := 0) (n := 1) i68_101 (Or.inr ⟨rfl, by decide⟩) rfl ?_
    refine ev_do i68_102 rfl ?_
    refine ev_if (t := 112) i68_104 rfl (fun c_3 => ?_) (fun c_3 => ?_)
    · replace hf := x_pos (show x4 = 0 from c_3) hf
      refine ev_do i68_112 rfl ?_
      exact j68_113_ok hd hf
    · replace hf := x_neg (show ¬ x4 = 0 from c_3) hf
      refine ev_do i68_107 rfl ?_
      refine sh_goto (t := 113) i68_109 rfl ?_
      exact j68_113_ok hd hf
def j68_69  (o0 : Option Nat) (x1 : Int32) (x2 : Int32) (x3 : Int32) (s0 : Int32) (h : xH) : Option xH := (if s0 = 0 then j68_94 o0 x1 x2 x3 s0 h else (xgR h o0 7 1).bind fun a_2 => (xcv h a_2 1).bind fun _ => (fn9 a_2 7 h).bind fun r_3 => (if r_3.1 = none then j68_94 o0 x1 x2 x3 s0 r_3.2 else (xcv r_3.2 o0 7).bind fun _ => (fn62 o0 x1 5 r_3.2).bind fun h_5 => j68_94 o0 x1 x2 x3 s0 h_5))
theorem j68_69_ok {xs : List Int32} {d : Nat} (hd : 7 ≤ d) {u4 : Value} {o0 : Option Nat} {x1 : Int32} {x2 : Int32} {x3 : Int32} {s0 : Int32} {h : xH} {r : xH} (hu4 : u4.category = 1) (hf : j68_69 o0 x1 x2 x3 s0 h = some r) : xEv (xTa xs) d 68 (69, [xrv o0, .int x1, .int x2, .int x3, u4], [.int s0], h) (none, r) := by
  unfold j68_69 at hf
  refine sh_istore (i' := 4) (n := 2) i68_69 (Or.inl rfl) (xokst_of (Nat.le_of_ble_eq_true rfl) rfl) ?_
  refine ev_do i68_71 rfl ?_
  refine ev_if (t := 94) i68_73 rfl (fun c_1 => ?_) (fun c_1 => ?_)
  · replace hf := x_pos (show s0 = 0 from c_1) hf
    exact j68_94_ok hd hf
  · replace hf := x_neg (show ¬ s0 = 0 from c_1) hf
    refine sh_aload (i' := 0) (n := 1) i68_76 (Or.inr ⟨rfl, by decide⟩) rfl ?_
    obtain ⟨a_2, ea_2, hf⟩ := x_bind hf
    refine sh_getR i68_77 f68_20 ea_2 ?_
    refine ev_do i68_80 rfl ?_
    obtain ⟨_, eu_7, hf⟩ := x_bind hf
    obtain ⟨r_3, er_3, hf⟩ := x_bind hf
    refine sh_inv (as := [.int 7]) (z := (some (xrv r_3.1), r_3.2)) i68_82 v68_128 (Or.inl ⟨by decide, rfl⟩) m9 rfl (Nat.le_of_ble_eq_true rfl) eu_7 (fn9_call (by omega) er_3) ?_
    refine sh_null (t := 94) i68_85 rfl (fun c_4 => ?_) (fun c_4 => ?_)
    · replace hf := x_pos c_4 hf
      exact j68_94_ok hd hf
    · replace hf := x_neg c_4 hf
      refine sh_aload (i' := 0) (n := 1) i68_88 (Or.inr ⟨rfl, by decide⟩) rfl ?_
      refine ev_do i68_89 rfl ?_
      refine ev_do i68_90 rfl ?_
      obtain ⟨_, eu_6, hf⟩ := x_bind hf
      obtain ⟨h_5, eh_5, hf⟩ := x_bind hf
      refine sh_inv (as := [.int 5, .int x1]) (z := (none, h_5)) i68_91 v68_81 (Or.inl ⟨by decide, rfl⟩) m62 rfl (Nat.le_of_ble_eq_true rfl) eu_6 (fn62_call (by omega) eh_5) ?_
      exact j68_94_ok hd hf
def j68_68  (o0 : Option Nat) (x1 : Int32) (x2 : Int32) (x3 : Int32) (h : xH) : Option xH := j68_69 o0 x1 x2 x3 0 h
theorem j68_68_ok {xs : List Int32} {d : Nat} (hd : 7 ≤ d) {u4 : Value} {o0 : Option Nat} {x1 : Int32} {x2 : Int32} {x3 : Int32} {h : xH} {r : xH} (hu4 : u4.category = 1) (hf : j68_68 o0 x1 x2 x3 h = some r) : xEv (xTa xs) d 68 (68, [xrv o0, .int x1, .int x2, .int x3, u4], [], h) (none, r) := by
  unfold j68_68 at hf
  refine ev_do i68_68 rfl ?_
  exact j68_69_ok hd hu4 hf
def j68_36  (o0 : Option Nat) (x1 : Int32) (x2 : Int32) (s0 : Int32) (h : xH) : Option xH := (if s0 = 0 then (xgI h o0 7 4).bind fun v_2 => (if v_2 = 0 then j68_68 o0 x1 x2 s0 h else (xcv h o0 7).bind fun _ => (fn69 o0 x1 x2 h).bind fun r_4 => (if r_4.1 = 0 then j68_68 o0 x1 x2 s0 r_4.2 else j68_69 o0 x1 x2 s0 1 r_4.2)) else (xcv h o0 7).bind fun _ => (fn62 o0 x1 2 h).bind fun h_7 => some h_7)
theorem j68_36_ok {xs : List Int32} {d : Nat} (hd : 7 ≤ d) {u3 : Value} {u4 : Value} {o0 : Option Nat} {x1 : Int32} {x2 : Int32} {s0 : Int32} {h : xH} {r : xH} (hu3 : u3.category = 1) (hu4 : u4.category = 1) (hf : j68_36 o0 x1 x2 s0 h = some r) : xEv (xTa xs) d 68 (36, [xrv o0, .int x1, .int x2, u3, u4], [.int s0], h) (none, r) := by
  unfold j68_36 at hf
  refine sh_istore (i' := 3) (n := 1) i68_36 (Or.inr ⟨rfl, by decide⟩) (xokst_of (Nat.le_of_ble_eq_true rfl) rfl) ?_
  refine ev_do i68_37 rfl ?_
  refine ev_if (t := 48) i68_38 rfl (fun c_1 => ?_) (fun c_1 => ?_)
  · replace hf := x_pos (show s0 = 0 from c_1) hf
    refine sh_aload (i' := 0) (n := 1) i68_48 (Or.inr ⟨rfl, by decide⟩) rfl ?_
    obtain ⟨v_2, ev_2, hf⟩ := x_bind hf
    refine sh_getI i68_49 f68_34 ev_2 ?_
    refine ev_if (t := 68) i68_52 rfl (fun c_3 => ?_) (fun c_3 => ?_)
    · replace hf := x_pos (show v_2 = 0 from c_3) hf
      exact j68_68_ok hd hu4 hf
    · replace hf := x_neg (show ¬ v_2 = 0 from c_3) hf
      refine sh_aload (i' := 0) (n := 1) i68_55 (Or.inr ⟨rfl, by decide⟩) rfl ?_
      refine ev_do i68_56 rfl ?_
      refine ev_do i68_57 rfl ?_
      obtain ⟨_, eu_6, hf⟩ := x_bind hf
      obtain ⟨r_4, er_4, hf⟩ := x_bind hf
      refine sh_inv (as := [.int x2, .int x1]) (z := (some (.int r_4.1), r_4.2)) i68_58 v68_124 (Or.inl ⟨by decide, rfl⟩) m69 rfl (Nat.le_of_ble_eq_true rfl) eu_6 (fn69_call (by omega) er_4) ?_
      refine ev_if (t := 68) i68_61 rfl (fun c_5 => ?_) (fun c_5 => ?_)
      · replace hf := x_pos (show r_4.1 = 0 from c_5) hf
        exact j68_68_ok hd hu4 hf
      · replace hf := x_neg (show ¬ r_4.1 = 0 from c_5) hf
        refine ev_do i68_64 rfl ?_
        refine sh_goto (t := 69) i68_65 rfl ?_
        exact j68_69_ok hd hu4 hf
  · replace hf := x_neg (show ¬ s0 = 0 from c_1) hf
    refine sh_aload (i' := 0) (n := 1) i68_41 (Or.inr ⟨rfl, by decide⟩) rfl ?_
    refine ev_do i68_42 rfl ?_
    refine ev_do i68_43 rfl ?_
    obtain ⟨_, eu_8, hf⟩ := x_bind hf
    obtain ⟨h_7, eh_7, hf⟩ := x_bind hf
    refine sh_inv (as := [.int 2, .int x1]) (z := (none, h_7)) i68_44 v68_81 (Or.inl ⟨by decide, rfl⟩) m62 rfl (Nat.le_of_ble_eq_true rfl) eu_8 (fn62_call (by omega) eh_7) ?_
    obtain rfl := Option.some.inj hf
    exact sh_vret i68_47 m68 rfl
def j68_35  (o0 : Option Nat) (x1 : Int32) (x2 : Int32) (h : xH) : Option xH := j68_36 o0 x1 x2 0 h
theorem j68_35_ok {xs : List Int32} {d : Nat} (hd : 7 ≤ d) {u3 : Value} {u4 : Value} {o0 : Option Nat} {x1 : Int32} {x2 : Int32} {h : xH} {r : xH} (hu3 : u3.category = 1) (hu4 : u4.category = 1) (hf : j68_35 o0 x1 x2 h = some r) : xEv (xTa xs) d 68 (35, [xrv o0, .int x1, .int x2, u3, u4], [], h) (none, r) := by
  unfold j68_35 at hf
  refine ev_do i68_35 rfl ?_
  exact j68_36_ok hd hu3 hu4 hf
def fn68 (o0 : Option Nat) (x1 : Int32) (x2 : Int32) (h : xH) : Option xH := (xgI h o0 7 4).bind fun v_1 => (if v_1 = 0 then (xgR h o0 7 3).bind fun a_3 => (if a_3 = none then j68_35 o0 x1 x2 h else (xgR h o0 7 3).bind fun a_5 => (xcv h a_5 0).bind fun _ => (fn2 a_5 h).bind fun r_6 => (if r_6.1 = 0 then j68_35 o0 x1 x2 r_6.2 else j68_36 o0 x1 x2 1 r_6.2)) else (xcv h o0 7).bind fun _ => (fn65 o0 h).bind fun r_9 => j68_36 o0 x1 x2 r_9.1 r_9.2)
theorem fn68_call {xs : List Int32} {d : Nat} (hd : 8 ≤ d) {o0 : Option Nat} {x1 : Int32} {x2 : Int32} {h : xH} {r : xH} (hf : fn68 o0 x1 x2 h = some r) : xCall (xTa xs) d 68 [xrv o0, .int x1, .int x2] h (none, r) := by
  obtain ⟨d, rfl⟩ : ∃ d2, d = d2 + 1 := ⟨d - 1, by omega⟩
  replace hd : 7 ≤ d := by omega
  refine call_of2 (fl := [xrv o0, .int x1, .int x2]) (Ls := [xrv o0, .int x1, .int x2, .float 0, .float 0]) m68 (by simp [xfl, xrv_cat, xc_i, xc_j, xc_a, xc_f]) (Nat.le_of_ble_eq_true rfl) rfl ?_
  unfold fn68 at hf
  refine sh_aload (i' := 0) (n := 1) i68_0 (Or.inr ⟨rfl, by decide⟩) rfl ?_
  obtain ⟨v_1, ev_1, hf⟩ := x_bind hf
  refine sh_getI i68_1 f68_34 ev_1 ?_
  refine ev_if (t := 14) i68_4 rfl (fun c_2 => ?_) (fun c_2 => ?_)
  · replace hf := x_pos (show v_1 = 0 from c_2) hf
    refine sh_aload (i' := 0) (n := 1) i68_14 (Or.inr ⟨rfl, by decide⟩) rfl ?_
    obtain ⟨a_3, ea_3, hf⟩ := x_bind hf
    refine sh_getR i68_15 f68_30 ea_3 ?_
    refine sh_null (t := 35) i68_18 rfl (fun c_4 => ?_) (fun c_4 => ?_)
    · replace hf := x_pos c_4 hf
      exact j68_35_ok hd rfl rfl hf
    · replace hf := x_neg c_4 hf
      refine sh_aload (i' := 0) (n := 1) i68_21 (Or.inr ⟨rfl, by decide⟩) rfl ?_
      obtain ⟨a_5, ea_5, hf⟩ := x_bind hf
      refine sh_getR i68_22 f68_30 ea_5 ?_
      obtain ⟨_, eu_8, hf⟩ := x_bind hf
      obtain ⟨r_6, er_6, hf⟩ := x_bind hf
      refine sh_inv (as := []) (z := (some (.int r_6.1), r_6.2)) i68_25 v68_121 (Or.inl ⟨by decide, rfl⟩) m2 rfl (Nat.le_of_ble_eq_true rfl) eu_8 (fn2_call (by omega) er_6) ?_
      refine ev_if (t := 35) i68_28 rfl (fun c_7 => ?_) (fun c_7 => ?_)
      · replace hf := x_pos (show r_6.1 = 0 from c_7) hf
        exact j68_35_ok hd rfl rfl hf
      · replace hf := x_neg (show ¬ r_6.1 = 0 from c_7) hf
        refine ev_do i68_31 rfl ?_
        refine sh_goto (t := 36) i68_32 rfl ?_
        exact j68_36_ok hd rfl rfl hf
  · replace hf := x_neg (show ¬ v_1 = 0 from c_2) hf
    refine sh_aload (i' := 0) (n := 1) i68_7 (Or.inr ⟨rfl, by decide⟩) rfl ?_
    obtain ⟨_, eu_10, hf⟩ := x_bind hf
    obtain ⟨r_9, er_9, hf⟩ := x_bind hf
    refine sh_inv (as := []) (z := (some (.int r_9.1), r_9.2)) i68_8 v68_108 (Or.inl ⟨by decide, rfl⟩) m65 rfl (Nat.le_of_ble_eq_true rfl) eu_10 (fn65_call (by omega) er_9) ?_
    refine sh_goto (t := 36) i68_11 rfl ?_
    exact j68_36_ok hd rfl rfl hf
end
