section
def j70_40 (k2 : Option Nat → Int32 → Int32 → Int32 → xH → Option (Int32 × xH)) (o0 : Option Nat) (x1 : Int32) (x2 : Int32) (x3 : Int32) (q4 : Nat) (h : xH) : Option (Int32 × xH) := k2 o0 x1 x2 (x3 + 1) h
theorem j70_40_ok {xs : List Int32} {d : Nat} (hd : 6 ≤ d) {k2 : Option Nat → Int32 → Int32 → Int32 → xH → Option (Int32 × xH)} (hk2 : ∀ {u4 : Value} {o0 : Option Nat} {x1 : Int32} {x2 : Int32} {x3 : Int32} {h : xH} {r : (Int32 × xH)}, u4.category = 1 → k2 o0 x1 x2 x3 h = some r → xEv (xTa xs) d 70 (2, [xrv o0, .int x1, .int x2, .int x3, u4], [], h) (some (.int r.1), r.2)) {o0 : Option Nat} {x1 : Int32} {x2 : Int32} {x3 : Int32} {q4 : Nat} {h : xH} {r : (Int32 × xH)} (hf : j70_40 k2 o0 x1 x2 x3 q4 h = some r) : xEv (xTa xs) d 70 (40, [xrv o0, .int x1, .int x2, .int x3, .retAddr (q4 + 1)], [], h) (some (.int r.1), r.2) := by
  unfold j70_40 at hf
  refine sh_inc (i' := 3) i70_40 rfl (xokst_of (Nat.le_of_ble_eq_true rfl) rfl) rfl ?_
  refine sh_goto (t := 2) i70_43 rfl ?_
  exact hk2 rfl hf
def l70_2  : Nat → Option Nat → Int32 → Int32 → Int32 → xH → Option (Int32 × xH)
  | 0 => fun _ _ _ _ _ => none
  | n + 1 => fun o0 x1 x2 x3 h => (if 6 < x3 then some ((-1), h) else (fn139 x3 h).bind fun r_2 => (xqL r_2.1).bind fun v_3 => (if v_3 = (x2 - x1) then (xgR r_2.2 o0 7 2).bind fun a_5 => (xcv r_2.2 a_5 9).bind fun _ => (fn104 a_5 x1 r_2.1 r_2.2).bind fun r_6 => (if r_6.1 = 0 then j70_40 (l70_2 n) o0 x1 x2 x3 r_2.1 r_6.2 else some (x3, r_6.2)) else j70_40 (l70_2 n) o0 x1 x2 x3 r_2.1 r_2.2))
theorem l70_2_ok {xs : List Int32} {d : Nat} (hd : 6 ≤ d) : ∀ (n : Nat) {u4 : Value} {o0 : Option Nat} {x1 : Int32} {x2 : Int32} {x3 : Int32} {h : xH} {r : (Int32 × xH)} (hu4 : u4.category = 1), l70_2 n o0 x1 x2 x3 h = some r → xEv (xTa xs) d 70 (2, [xrv o0, .int x1, .int x2, .int x3, u4], [], h) (some (.int r.1), r.2) := by
  intro n
  induction n with
  | zero => intros; rename_i hf; cases hf
  | succ n ih =>
    intro u4 o0 x1 x2 x3 h r hu4 hf
    replace hf : ((if 6 < x3 then some ((-1), h) else (fn139 x3 h).bind fun r_2 => (xqL r_2.1).bind fun v_3 => (if v_3 = (x2 - x1) then (xgR r_2.2 o0 7 2).bind fun a_5 => (xcv r_2.2 a_5 9).bind fun _ => (fn104 a_5 x1 r_2.1 r_2.2).bind fun r_6 => (if r_6.1 = 0 then j70_40 (l70_2 n) o0 x1 x2 x3 r_2.1 r_6.2 else some (x3, r_6.2)) else j70_40 (l70_2 n) o0 x1 x2 x3 r_2.1 r_2.2))) = some r := hf
    refine ev_do i70_2 rfl ?_
    refine ev_do i70_3 rfl ?_
    refine ev_icmp (t := 46) i70_5 rfl (fun c_1 => ?_) (fun c_1 => ?_)
    · replace hf := x_pos (show 6 < x3 from c_1) hf
      refine ev_do i70_46 rfl ?_
      obtain rfl := Option.some.inj hf
      exact sh_iret i70_47 m70 rfl rfl
    · replace hf := x_neg (show ¬ 6 < x3 from c_1) hf
      refine ev_do i70_8 rfl ?_
      obtain ⟨r_2, er_2, hf⟩ := x_bind hf
      refine ev_sta (as := [.int x3]) (z := (some (.retAddr (r_2.1 + 1)), r_2.2)) i70_9 v70_153 (Or.inr rfl) m139 rfl (Nat.le_of_ble_eq_true rfl) (fn139_call (by omega) er_2) ?_
      refine sh_sstore (i' := 4) (n := 2) i70_12 (Or.inl rfl) (xokst_of (Nat.le_of_ble_eq_true rfl) rfl) ?_
      refine ev_do i70_14 rfl ?_
      obtain ⟨v_3, ev_3, hf⟩ := x_bind hf
      refine sh_tlen i70_16 v70_147 (Nat.le_of_ble_eq_true rfl) (by omega) ev_3 ?_
      refine ev_do i70_19 rfl ?_
      refine ev_do i70_20 rfl ?_
      refine ev_do i70_21 rfl ?_
      refine ev_icmp (t := 40) i70_22 rfl (fun c_4 => ?_) (fun c_4 => ?_)
      · replace hf := x_neg (show ¬ v_3 = (x2 - x1) from c_4) hf
        exact j70_40_ok hd ih hf
      · replace hf := x_pos (show v_3 = (x2 - x1) from Decidable.byContradiction (fun h9 => c_4 h9)) hf
        refine sh_aload (i' := 0) (n := 1) i70_25 (Or.inr ⟨rfl, by decide⟩) rfl ?_
        obtain ⟨a_5, ea_5, hf⟩ := x_bind hf
        refine sh_getR i70_26 f70_29 ea_5 ?_
        refine ev_do i70_29 rfl ?_
        refine ev_do i70_30 rfl ?_
        obtain ⟨_, eu_8, hf⟩ := x_bind hf
        obtain ⟨r_6, er_6, hf⟩ := x_bind hf
        refine sh_inv (as := [.retAddr (r_2.1 + 1), .int x1]) (z := (some (.int r_6.1), r_6.2)) i70_32 v70_134 (Or.inl ⟨by decide, rfl⟩) m104 rfl (Nat.le_of_ble_eq_true rfl) eu_8 (fn104_call (by omega) er_6) ?_
        refine ev_if (t := 40) i70_35 rfl (fun c_7 => ?_) (fun c_7 => ?_)
        · replace hf := x_pos (show r_6.1 = 0 from c_7) hf
          exact j70_40_ok hd ih hf
        · replace hf := x_neg (show ¬ r_6.1 = 0 from c_7) hf
          refine ev_do i70_38 rfl ?_
          obtain rfl := Option.some.inj hf
          exact sh_iret i70_39 m70 rfl rfl
def fn70 (o0 : Option Nat) (x1 : Int32) (x2 : Int32) (h : xH) : Option (Int32 × xH) := l70_2 xFuel o0 x1 x2 2 h
theorem fn70_call {xs : List Int32} {d : Nat} (hd : 7 ≤ d) {o0 : Option Nat} {x1 : Int32} {x2 : Int32} {h : xH} {r : (Int32 × xH)} (hf : fn70 o0 x1 x2 h = some r) : xCall (xTa xs) d 70 [xrv o0, .int x1, .int x2] h (some (.int r.1), r.2) := by
  obtain ⟨d, rfl⟩ : ∃ d2, d = d2 + 1 := ⟨d - 1, by omega⟩
  replace hd : 6 ≤ d := by omega
  refine call_of2 (fl := [xrv o0, .int x1, .int x2]) (Ls := [xrv o0, .int x1, .int x2, .float 0, .float 0]) m70 (by simp [xfl, xrv_cat, xc_i, xc_j, xc_a, xc_f]) (Nat.le_of_ble_eq_true rfl) rfl ?_
  unfold fn70 at hf
  refine ev_do i70_0 rfl ?_
  refine sh_istore (i' := 3) (n := 1) i70_1 (Or.inr ⟨rfl, by decide⟩) (xokst_of (Nat.le_of_ble_eq_true rfl) rfl) ?_
  exact l70_2_ok hd xFuel rfl hf
end
section
def fn73 (o0 : Option Nat) (x1 : Int32) (x2 : Int32) (h : xH) : Option (Int32 × xH) := (xgR h o0 7 0).bind fun a_1 => (xcv h a_1 9).bind fun _ => (fn101 a_1 0 h).bind fun h_2 => (xgR h_2 o0 7 0).bind fun a_3 => (xgR h_2 o0 7 2).bind fun a_4 => (xcv h_2 a_3 9).bind fun _ => (fn100 a_3 a_4 x1 x2 h_2).bind fun h_5 => (xgR h_5 o0 7 1).bind fun a_6 => (xgR h_5 o0 7 0).bind fun a_7 => (xcv h_5 a_6 1).bind fun _ => (fn10 a_6 a_7 h_5).bind fun r_8 => (if r_8.1 &&& 1 = r_8.1 then some (r_8.1, r_8.2) else none)
theorem fn73_call {xs : List Int32} {d : Nat} (hd : 4 ≤ d) {o0 : Option Nat} {x1 : Int32} {x2 : Int32} {h : xH} {r : (Int32 × xH)} (hf : fn73 o0 x1 x2 h = some r) : xCall (xTa xs) d 73 [xrv o0, .int x1, .int x2] h (some (.int r.1), r.2) := by
  obtain ⟨d, rfl⟩ : ∃ d2, d = d2 + 1 := ⟨d - 1, by omega⟩
  replace hd : 3 ≤ d := by omega
  refine call_of2 (fl := [xrv o0, .int x1, .int x2]) (Ls := [xrv o0, .int x1, .int x2]) m73 (by simp [xfl, xrv_cat, xc_i, xc_j, xc_a, xc_f]) (Nat.le_of_ble_eq_true rfl) rfl ?_
  unfold fn73 at hf
  refine sh_aload (i' := 0) (n := 1) i73_0 (Or.inr ⟨rfl, by decide⟩) rfl ?_
  obtain ⟨a_1, ea_1, hf⟩ := x_bind hf
  refine sh_getR i73_1 f73_14 ea_1 ?_
  refine ev_do i73_4 rfl ?_
  obtain ⟨_, eu_12, hf⟩ := x_bind hf
  obtain ⟨h_2, eh_2, hf⟩ := x_bind hf
  refine sh_inv (as := [.int 0]) (z := (none, h_2)) i73_5 v73_182 (Or.inl ⟨by decide, rfl⟩) m101 rfl (Nat.le_of_ble_eq_true rfl) eu_12 (fn101_call (by omega) eh_2) ?_
  refine sh_aload (i' := 0) (n := 1) i73_8 (Or.inr ⟨rfl, by decide⟩) rfl ?_
  obtain ⟨a_3, ea_3, hf⟩ := x_bind hf
  refine sh_getR i73_9 f73_14 ea_3 ?_
  refine sh_aload (i' := 0) (n := 1) i73_12 (Or.inr ⟨rfl, by decide⟩) rfl ?_
  obtain ⟨a_4, ea_4, hf⟩ := x_bind hf
  refine sh_getR i73_13 f73_29 ea_4 ?_
  refine ev_do i73_16 rfl ?_
  refine ev_do i73_17 rfl ?_
  obtain ⟨_, eu_11, hf⟩ := x_bind hf
  obtain ⟨h_5, eh_5, hf⟩ := x_bind hf
  refine sh_inv (as := [.int x2, .int x1, xrv a_4]) (z := (none, h_5)) i73_18 v73_185 (Or.inl ⟨by decide, rfl⟩) m100 rfl (Nat.le_of_ble_eq_true rfl) eu_11 (fn100_call (by omega) eh_5) ?_
  refine sh_aload (i' := 0) (n := 1) i73_21 (Or.inr ⟨rfl, by decide⟩) rfl ?_
  obtain ⟨a_6, ea_6, hf⟩ := x_bind hf
  refine sh_getR i73_22 f73_20 ea_6 ?_
  refine sh_aload (i' := 0) (n := 1) i73_25 (Or.inr ⟨rfl, by decide⟩) rfl ?_
  obtain ⟨a_7, ea_7, hf⟩ := x_bind hf
  refine sh_getR i73_26 f73_14 ea_7 ?_
  obtain ⟨_, eu_10, hf⟩ := x_bind hf
  obtain ⟨r_8, er_8, hf⟩ := x_bind hf
  refine sh_inv (as := [xrv a_7]) (z := (some (.int r_8.1), r_8.2)) i73_29 v73_189 (Or.inl ⟨by decide, rfl⟩) m10 rfl (Nat.le_of_ble_eq_true rfl) eu_10 (fn10_call (by omega) er_8) ?_
  by_cases c_9 : r_8.1 &&& 1 = r_8.1
  · replace hf := x_pos c_9 hf
    obtain rfl := Option.some.inj hf
    exact sh_iret i73_32 m73 rfl (congrArg Value.int c_9)
  · replace hf := x_neg c_9 hf
    cases hf
end
section
def l110_2  : Nat → Option Nat → Int32 → Int32 → Int32 → xH → Option (Int32 × xH)
  | 0 => fun _ _ _ _ _ => none
  | n + 1 => fun o0 x1 x2 x3 h => (if x2 ≤ x3 then (fn135 (x2 - x1) 1 4 h).bind fun r_2 => (if r_2.1 &&& 1 = r_2.1 then some (r_2.1, r_2.2) else none) else (xcv h o0 9).bind fun _ => (fn96 o0 x3 h).bind fun r_4 => (fn136 r_4.1 r_4.2).bind fun r_5 => (if r_5.1 = 0 then some (0, r_5.2) else l110_2 n o0 x1 x2 (x3 + 1) r_5.2))
theorem l110_2_ok {xs : List Int32} {d : Nat} (hd : 2 ≤ d) : ∀ (n : Nat) {o0 : Option Nat} {x1 : Int32} {x2 : Int32} {x3 : Int32} {h : xH} {r : (Int32 × xH)}, l110_2 n o0 x1 x2 x3 h = some r → xEv (xTa xs) d 110 (2, [xrv o0, .int x1, .int x2, .int x3], [], h) (some (.int r.1), r.2) := by
  intro n
  induction n with
  | zero => intros; rename_i hf; cases hf
  | succ n ih =>
    intro o0 x1 x2 x3 h r hf
    replace hf : ((if x2 ≤ x3 then (fn135 (x2 - x1) 1 4 h).bind fun r_2 => (if r_2.1 &&& 1 = r_2.1 then some (r_2.1, r_2.2) else none) else (xcv h o0 9).bind fun _ => (fn96 o0 x3 h).bind fun r_4 => (fn136 r_4.1 r_4.2).bind fun r_5 => (if r_5.1 = 0 then some (0, r_5.2) else l110_2 n o0 x1 x2 (x3 + 1) r_5.2))) = some r := hf
    refine ev_do i110_2 rfl ?_
    refine ev_do i110_3 rfl ?_
    refine ev_icmp (t := 26) i110_4 rfl (fun c_1 => ?_) (fun c_1 => ?_)
    · replace hf := x_pos (show x2 ≤ x3 from c_1) hf
      refine ev_do i110_26 rfl ?_
      refine ev_do i110_27 rfl ?_
      refine ev_do i110_28 rfl ?_
      refine ev_do i110_29 rfl ?_
      refine ev_do i110_30 rfl ?_
      obtain ⟨r_2, er_2, hf⟩ := x_bind hf
      refine ev_sta (as := [.int 4, .int 1, .int (x2 - x1)]) (z := (some (.int r_2.1), r_2.2)) i110_31 v110_57 (Or.inr rfl) m135 rfl (Nat.le_of_ble_eq_true rfl) (fn135_call (by omega) er_2) ?_
      by_cases c_3 : r_2.1 &&& 1 = r_2.1
      · replace hf := x_pos c_3 hf
        obtain rfl := Option.some.inj hf
        exact sh_iret i110_34 m110 rfl (congrArg Value.int c_3)
      · replace hf := x_neg c_3 hf
        cases hf
    · replace hf := x_neg (show ¬ x2 ≤ x3 from c_1) hf
      refine sh_aload (i' := 0) (n := 1) i110_7 (Or.inr ⟨rfl, by decide⟩) rfl ?_
      refine ev_do i110_8 rfl ?_
      obtain ⟨_, eu_7, hf⟩ := x_bind hf
      obtain ⟨r_4, er_4, hf⟩ := x_bind hf
      refine sh_inv (as := [.int x3]) (z := (some (.int r_4.1), r_4.2)) i110_9 v110_39 (Or.inl ⟨by decide, rfl⟩) m96 rfl (Nat.le_of_ble_eq_true rfl) eu_7 (fn96_call (by omega) er_4) ?_
      obtain ⟨r_5, er_5, hf⟩ := x_bind hf
      refine ev_sta (as := [.int r_4.1]) (z := (some (.int r_5.1), r_5.2)) i110_12 v110_50 (Or.inr rfl) m136 rfl (Nat.le_of_ble_eq_true rfl) (fn136_call (by omega) er_5) ?_
      refine ev_if (t := 20) i110_15 rfl (fun c_6 => ?_) (fun c_6 => ?_)
      · replace hf := x_neg (show ¬ r_5.1 = 0 from c_6) hf
        refine sh_inc (i' := 3) i110_20 rfl (xokst_of (Nat.le_of_ble_eq_true rfl) rfl) rfl ?_
        refine sh_goto (t := 2) i110_23 rfl ?_
        exact ih hf
      · replace hf := x_pos (show r_5.1 = 0 from Decidable.byContradiction (fun h9 => c_6 h9)) hf
        refine ev_do i110_18 rfl ?_
        obtain rfl := Option.some.inj hf
        exact sh_iret i110_19 m110 rfl (by decide)
def fn110 (o0 : Option Nat) (x1 : Int32) (x2 : Int32) (h : xH) : Option (Int32 × xH) := l110_2 xFuel o0 x1 x2 x1 h
theorem fn110_call {xs : List Int32} {d : Nat} (hd : 3 ≤ d) {o0 : Option Nat} {x1 : Int32} {x2 : Int32} {h : xH} {r : (Int32 × xH)} (hf : fn110 o0 x1 x2 h = some r) : xCall (xTa xs) d 110 [xrv o0, .int x1, .int x2] h (some (.int r.1), r.2) := by
  obtain ⟨d, rfl⟩ : ∃ d2, d = d2 + 1 := ⟨d - 1, by omega⟩
  replace hd : 2 ≤ d := by omega
  refine call_of2 (fl := [xrv o0, .int x1, .int x2]) (Ls := [xrv o0, .int x1, .int x2, .float 0]) m110 (by simp [xfl, xrv_cat, xc_i, xc_j, xc_a, xc_f]) (Nat.le_of_ble_eq_true rfl) rfl ?_
  unfold fn110 at hf
  refine ev_do i110_0 rfl ?_
  refine sh_istore (i' := 3) (n := 1) i110_1 (Or.inr ⟨rfl, by decide⟩) (xokst_of (Nat.le_of_ble_eq_true rfl) rfl) ?_
  exact l110_2_ok hd xFuel hf
end
section
def j72_130  (o0 : Option Nat) (x1 : Int32) (x2 : Int32) (x3 : Int32) (x4 : Int32) (x5 : Int32) (x6 : Int32) (h : xH) : Option (Int32 × xH) := (xgR h o0 7 3).bind fun a_1 => (xpF h a_1 0 6 .int (.int x4)).bind fun h_2 => (xgR h_2 o0 7 3).bind fun a_3 => (xpF h_2 a_3 0 7 .int (.int x5)).bind fun h_4 => some (x5, h_4)
theorem j72_130_ok {xs : List Int32} {d : Nat} (hd : 4 ≤ d) {o0 : Option Nat} {x1 : Int32} {x2 : Int32} {x3 : Int32} {x4 : Int32} {x5 : Int32} {x6 : Int32} {h : xH} {r : (Int32 × xH)} (hf : j72_130 o0 x1 x2 x3 x4 x5 x6 h = some r) : xEv (xTa xs) d 72 (130, [xrv o0, .int x1, .int x2, .int x3, .int x4, .int x5, .int x6], [], h) (some (.int r.1), r.2) := by
  unfold j72_130 at hf
  refine sh_aload (i' := 0) (n := 1) i72_130 (Or.inr ⟨rfl, by decide⟩) rfl ?_
  obtain ⟨a_1, ea_1, hf⟩ := x_bind hf
  refine sh_getR i72_131 f72_30 ea_1 ?_
  refine ev_do i72_134 rfl ?_
  obtain ⟨h_2, eh_2, hf⟩ := x_bind hf
  refine sh_put i72_136 f72_176 (by decide) rfl eh_2 ?_
  refine sh_aload (i' := 0) (n := 1) i72_139 (Or.inr ⟨rfl, by decide⟩) rfl ?_
  obtain ⟨a_3, ea_3, hf⟩ := x_bind hf
  refine sh_getR i72_140 f72_30 ea_3 ?_
  refine ev_do i72_143 rfl ?_
  obtain ⟨h_4, eh_4, hf⟩ := x_bind hf
  refine sh_put i72_145 f72_179 (by decide) rfl eh_4 ?_
  refine ev_do i72_148 rfl ?_
  obtain rfl := Option.some.inj hf
  exact sh_iret i72_150 m72 rfl rfl
def j72_93  (o0 : Option Nat) (x1 : Int32) (x2 : Int32) (x3 : Int32) (x4 : Int32) (x5 : Int32) (x6 : Int32) (h : xH) : Option (Int32 × xH) := (xcv h o0 7).bind fun _ => (fn62 o0 x4 2 h).bind fun h_1 => some (x3, h_1)
theorem j72_93_ok {xs : List Int32} {d : Nat} (hd : 4 ≤ d) {o0 : Option Nat} {x1 : Int32} {x2 : Int32} {x3 : Int32} {x4 : Int32} {x5 : Int32} {x6 : Int32} {h : xH} {r : (Int32 × xH)} (hf : j72_93 o0 x1 x2 x3 x4 x5 x6 h = some r) : xEv (xTa xs) d 72 (93, [xrv o0, .int x1, .int x2, .int x3, .int x4, .int x5, .int x6], [], h) (some (.int r.1), r.2) := by
  unfold j72_93 at hf
  refine sh_aload (i' := 0) (n := 1) i72_93 (Or.inr ⟨rfl, by decide⟩) rfl ?_
  refine ev_do i72_94 rfl ?_
  refine ev_do i72_96 rfl ?_
  obtain ⟨_, eu_2, hf⟩ := x_bind hf
  obtain ⟨h_1, eh_1, hf⟩ := x_bind hf
  refine sh_inv (as := [.int 2, .int x4]) (z := (none, h_1)) i72_97 v72_81 (Or.inl ⟨by decide, rfl⟩) m62 rfl (Nat.le_of_ble_eq_true rfl) eu_2 (fn62_call (by omega) eh_1) ?_
  refine ev_do i72_100 rfl ?_
  obtain rfl := Option.some.inj hf
  exact sh_iret i72_101 m72 rfl rfl
def j72_81  (o0 : Option Nat) (x1 : Int32) (x2 : Int32) (x3 : Int32) (x4 : Int32) (x5 : Int32) (x6 : Int32) (h : xH) : Option (Int32 × xH) := (if x6 = 0 then j72_93 o0 x1 x2 x3 x4 x5 x6 h else (xgR h o0 7 3).bind fun a_2 => (if a_2 = none then j72_93 o0 x1 x2 x3 x4 x5 x6 h else (if x1 = 2 then (xcv h o0 7).bind fun _ => (fn73 o0 x4 x5 h).bind fun r_5 => (if r_5.1 = 0 then j72_130 o0 x1 x2 x3 x4 x5 x6 r_5.2 else (xgR r_5.2 o0 7 3).bind fun a_7 => (xgI r_5.2 a_7 0 2).bind fun v_8 => (xcv r_5.2 o0 7).bind fun _ => (fn62 o0 v_8 5 r_5.2).bind fun h_9 => j72_130 o0 x1 x2 x3 x4 x5 x6 h_9) else j72_130 o0 x1 x2 x3 x4 x5 x6 h)))
theorem j72_81_ok {xs : List Int32} {d : Nat} (hd : 4 ≤ d) {o0 : Option Nat} {x1 : Int32} {x2 : Int32} {x3 : Int32} {x4 : Int32} {x5 : Int32} {x6 : Int32} {h : xH} {r : (Int32 × xH)} (hf : j72_81 o0 x1 x2 x3 x4 x5 x6 h = some r) : xEv (xTa xs) d 72 (81, [xrv o0, .int x1, .int x2, .int x3, .int x4, .int x5, .int x6], [], h) (some (.int r.1), r.2) := by
  unfold j72_81 at hf
  refine ev_do i72_81 rfl ?_
  refine ev_if (t := 93) i72_83 rfl (fun c_1 => ?_) (fun c_1 => ?_)
  · replace hf := x_pos (show x6 = 0 from c_1) hf
    exact j72_93_ok hd hf
  · replace hf := x_neg (show ¬ x6 = 0 from c_1) hf
    refine sh_aload (i' := 0) (n := 1) i72_86 (Or.inr ⟨rfl, by decide⟩) rfl ?_
    obtain ⟨a_2, ea_2, hf⟩ := x_bind hf
    refine sh_getR i72_87 f72_30 ea_2 ?_
    refine sh_nnul (t := 102) i72_90 rfl (fun c_3 => ?_) (fun c_3 => ?_)
    · replace hf := x_pos c_3 hf
      exact j72_93_ok hd hf
    · replace hf := x_neg c_3 hf
      refine ev_do i72_102 rfl ?_
      refine ev_do i72_103 rfl ?_
      refine ev_icmp (t := 130) i72_104 rfl (fun c_4 => ?_) (fun c_4 => ?_)
      · replace hf := x_neg (show ¬ x1 = 2 from c_4) hf
        exact j72_130_ok hd hf
      · replace hf := x_pos (show x1 = 2 from Decidable.byContradiction (fun h9 => c_4 h9)) hf
        refine sh_aload (i' := 0) (n := 1) i72_107 (Or.inr ⟨rfl, by decide⟩) rfl ?_
        refine ev_do i72_108 rfl ?_
        refine ev_do i72_110 rfl ?_
        obtain ⟨_, eu_11, hf⟩ := x_bind hf
        obtain ⟨r_5, er_5, hf⟩ := x_bind hf
        refine sh_inv (as := [.int x5, .int x4]) (z := (some (.int r_5.1), r_5.2)) i72_112 v72_172 (Or.inl ⟨by decide, rfl⟩) m73 rfl (Nat.le_of_ble_eq_true rfl) eu_11 (fn73_call (by omega) er_5) ?_
        refine ev_if (t := 130) i72_115 rfl (fun c_6 => ?_) (fun c_6 => ?_)
        · replace hf := x_pos (show r_5.1 = 0 from c_6) hf
          exact j72_130_ok hd hf
        · replace hf := x_neg (show ¬ r_5.1 = 0 from c_6) hf
          refine sh_aload (i' := 0) (n := 1) i72_118 (Or.inr ⟨rfl, by decide⟩) rfl ?_
          refine sh_aload (i' := 0) (n := 1) i72_119 (Or.inr ⟨rfl, by decide⟩) rfl ?_
          obtain ⟨a_7, ea_7, hf⟩ := x_bind hf
          refine sh_getR i72_120 f72_30 ea_7 ?_
          obtain ⟨v_8, ev_8, hf⟩ := x_bind hf
          refine sh_getI i72_123 f72_175 ev_8 ?_
          refine ev_do i72_126 rfl ?_
          obtain ⟨_, eu_10, hf⟩ := x_bind hf
          obtain ⟨h_9, eh_9, hf⟩ := x_bind hf
          refine sh_inv (as := [.int 5, .int v_8]) (z := (none, h_9)) i72_127 v72_81 (Or.inl ⟨by decide, rfl⟩) m62 rfl (Nat.le_of_ble_eq_true rfl) eu_10 (fn62_call (by omega) eh_9) ?_
          exact j72_130_ok hd hf
def fn72 (o0 : Option Nat) (x1 : Int32) (x2 : Int32) (x3 : Int32) (h : xH) : Option (Int32 × xH) := (xgR h o0 7 2).bind fun a_1 => (xcv h a_1 9).bind fun _ => (fn106 a_1 x2 x3 h).bind fun r_2 => (xgR r_2.2 o0 7 2).bind fun a_3 => (xcv r_2.2 a_3 9).bind fun _ => (fn105 a_3 32 r_2.1 x3 r_2.2).bind fun r_4 => (if x1 = 2 then (xgR r_4.2 o0 7 2).bind fun a_6 => (xcv r_4.2 a_6 9).bind fun _ => (fn107 a_6 r_2.1 r_4.1 r_4.2).bind fun r_7 => j72_81 o0 x1 x2 x3 r_2.1 r_4.1 r_7.1 r_7.2 else (if x1 = 6 then (xgR r_4.2 o0 7 2).bind fun a_10 => (xcv r_4.2 a_10 9).bind fun _ => (fn110 a_10 r_2.1 r_4.1 r_4.2).bind fun r_11 => j72_81 o0 x1 x2 x3 r_2.1 r_4.1 r_11.1 r_11.2 else (xgR r_4.2 o0 7 2).bind fun a_13 => (xcv r_4.2 a_13 9).bind fun _ => (fn109 a_13 r_2.1 r_4.1 r_4.2).bind fun r_14 => j72_81 o0 x1 x2 x3 r_2.1 r_4.1 r_14.1 r_14.2))
theorem fn72_call {xs : List Int32} {d : Nat} (hd : 5 ≤ d) {o0 : Option Nat} {x1 : Int32} {x2 : Int32} {x3 : Int32} {h : xH} {r : (Int32 × xH)} (hf : fn72 o0 x1 x2 x3 h = some r) : xCall (xTa xs) d 72 [xrv o0, .int x1, .int x2, .int x3] h (some (.int r.1), r.2) := by
  obtain ⟨d, rfl⟩ : ∃ d2, d = d2 + 1 := ⟨d - 1, by omega⟩
  replace hd : 4 ≤ d := by omega
  refine call_of2 (fl := [xrv o0, .int x1, .int x2, .int x3]) (Ls := [xrv o0, .int x1, .int x2, .int x3, .float 0, .float 0, .float 0]) m72 (by simp [xfl, xrv_cat, xc_i, xc_j, xc_a, xc_f]) (Nat.le_of_ble_eq_true rfl) rfl ?_
  unfold fn72 at hf
  refine sh_aload (i' := 0) (n := 1) i72_0 (Or.inr ⟨rfl, by decide⟩) rfl ?_
  obtain ⟨a_1, ea_1, hf⟩ := x_bind hf
  refine sh_getR i72_1 f72_29 ea_1 ?_
  refine ev_do i72_4 rfl ?_
  refine ev_do i72_5 rfl ?_
  obtain ⟨_, eu_17, hf⟩ := x_bind hf
  obtain ⟨r_2, er_2, hf⟩ := x_bind hf
  refine sh_inv (as := [.int x3, .int x2]) (z := (some (.int r_2.1), r_2.2)) i72_6 v72_55 (Or.inl ⟨by decide, rfl⟩) m106 rfl (Nat.le_of_ble_eq_true rfl) eu_17 (fn106_call (by omega) er_2) ?_
  refine sh_istore (i' := 4) (n := 2) i72_9 (Or.inl rfl) (xokst_of (Nat.le_of_ble_eq_true rfl) rfl) ?_
  refine sh_aload (i' := 0) (n := 1) i72_11 (Or.inr ⟨rfl, by decide⟩) rfl ?_
  obtain ⟨a_3, ea_3, hf⟩ := x_bind hf
  refine sh_getR i72_12 f72_29 ea_3 ?_
  refine ev_do i72_15 rfl ?_
  refine ev_do i72_17 rfl ?_
  refine ev_do i72_19 rfl ?_
  obtain ⟨_, eu_16, hf⟩ := x_bind hf
  obtain ⟨r_4, er_4, hf⟩ := x_bind hf
  refine sh_inv (as := [.int x3, .int r_2.1, .int 32]) (z := (some (.int r_4.1), r_4.2)) i72_20 v72_51 (Or.inl ⟨by decide, rfl⟩) m105 rfl (Nat.le_of_ble_eq_true rfl) eu_16 (fn105_call (by omega) er_4) ?_
  refine sh_istore (i' := 5) (n := 2) i72_23 (Or.inl rfl) (xokst_of (Nat.le_of_ble_eq_true rfl) rfl) ?_
  refine ev_do i72_25 rfl ?_
  refine ev_do i72_26 rfl ?_
  refine ev_icmp (t := 46) i72_27 rfl (fun c_5 => ?_) (fun c_5 => ?_)
  · replace hf := x_neg (show ¬ x1 = 2 from c_5) hf
    refine ev_do i72_46 rfl ?_
    refine ev_do i72_47 rfl ?_
    refine ev_icmp (t := 68) i72_49 rfl (fun c_9 => ?_) (fun c_9 => ?_)
    · replace hf := x_neg (show ¬ x1 = 6 from c_9) hf
      refine sh_aload (i' := 0) (n := 1) i72_68 (Or.inr ⟨rfl, by decide⟩) rfl ?_
      obtain ⟨a_13, ea_13, hf⟩ := x_bind hf
      refine sh_getR i72_69 f72_29 ea_13 ?_
      refine ev_do i72_72 rfl ?_
      refine ev_do i72_74 rfl ?_
      obtain ⟨_, eu_15, hf⟩ := x_bind hf
      obtain ⟨r_14, er_14, hf⟩ := x_bind hf
      refine sh_inv (as := [.int r_4.1, .int r_2.1]) (z := (some (.int r_14.1), r_14.2)) i72_76 v72_169 (Or.inl ⟨by decide, rfl⟩) m109 rfl (Nat.le_of_ble_eq_true rfl) eu_15 (fn109_call (by omega) er_14) ?_
      refine sh_istore (i' := 6) (n := 2) i72_79 (Or.inl rfl) (xokst_of (Nat.le_of_ble_eq_true rfl) rfl) ?_
      exact j72_81_ok hd hf
    · replace hf := x_pos (show x1 = 6 from Decidable.byContradiction (fun h9 => c_9 h9)) hf
      refine sh_aload (i' := 0) (n := 1) i72_52 (Or.inr ⟨rfl, by decide⟩) rfl ?_
      obtain ⟨a_10, ea_10, hf⟩ := x_bind hf
      refine sh_getR i72_53 f72_29 ea_10 ?_
      refine ev_do i72_56 rfl ?_
      refine ev_do i72_58 rfl ?_
      obtain ⟨_, eu_12, hf⟩ := x_bind hf
      obtain ⟨r_11, er_11, hf⟩ := x_bind hf
      refine sh_inv (as := [.int r_4.1, .int r_2.1]) (z := (some (.int r_11.1), r_11.2)) i72_60 v72_166 (Or.inl ⟨by decide, rfl⟩) m110 rfl (Nat.le_of_ble_eq_true rfl) eu_12 (fn110_call (by omega) er_11) ?_
      refine sh_istore (i' := 6) (n := 2) i72_63 (Or.inl rfl) (xokst_of (Nat.le_of_ble_eq_true rfl) rfl) ?_
      refine sh_goto (t := 81) i72_65 rfl ?_
      exact j72_81_ok hd hf
  · replace hf := x_pos (show x1 = 2 from Decidable.byContradiction (fun h9 => c_5 h9)) hf
    refine sh_aload (i' := 0) (n := 1) i72_30 (Or.inr ⟨rfl, by decide⟩) rfl ?_
    obtain ⟨a_6, ea_6, hf⟩ := x_bind hf
    refine sh_getR i72_31 f72_29 ea_6 ?_
    refine ev_do i72_34 rfl ?_
    refine ev_do i72_36 rfl ?_
    obtain ⟨_, eu_8, hf⟩ := x_bind hf
    obtain ⟨r_7, er_7, hf⟩ := x_bind hf
    refine sh_inv (as := [.int r_4.1, .int r_2.1]) (z := (some (.int r_7.1), r_7.2)) i72_38 v72_163 (Or.inl ⟨by decide, rfl⟩) m107 rfl (Nat.le_of_ble_eq_true rfl) eu_8 (fn107_call (by omega) er_7) ?_
    refine sh_istore (i' := 6) (n := 2) i72_41 (Or.inl rfl) (xokst_of (Nat.le_of_ble_eq_true rfl) rfl) ?_
    refine sh_goto (t := 81) i72_43 rfl ?_
    exact j72_81_ok hd hf
end
section
def j71_147  (o0 : Option Nat) (x1 : Int32) (x2 : Int32) (x3 : Int32) (x4 : Int32) (x5 : Int32) (x6 : Int32) (h : xH) : Option xH := some h
theorem j71_147_ok {xs : List Int32} {d : Nat} (hd : 7 ≤ d) {o0 : Option Nat} {x1 : Int32} {x2 : Int32} {x3 : Int32} {x4 : Int32} {x5 : Int32} {x6 : Int32} {h : xH} {r : xH} (hf : j71_147 o0 x1 x2 x3 x4 x5 x6 h = some r) : xEv (xTa xs) d 71 (147, [xrv o0, .int x1, .int x2, .int x3, .int x4, .int x5, .int x6], [], h) (none, r) := by
  unfold j71_147 at hf
  obtain rfl := Option.some.inj hf
  exact sh_vret i71_147 m71 rfl
def j71_124  (o0 : Option Nat) (x1 : Int32) (x2 : Int32) (x3 : Int32) (x4 : Int32) (x5 : Int32) (x6 : Int32) (h : xH) : Option xH := (xcv h o0 7).bind fun _ => (fn74 o0 x6 x2 h).bind fun h_1 => j71_147 o0 x1 x2 x3 x4 x5 x6 h_1
theorem j71_124_ok {xs : List Int32} {d : Nat} (hd : 7 ≤ d) {o0 : Option Nat} {x1 : Int32} {x2 : Int32} {x3 : Int32} {x4 : Int32} {x5 : Int32} {x6 : Int32} {h : xH} {r : xH} (hf : j71_124 o0 x1 x2 x3 x4 x5 x6 h = some r) : xEv (xTa xs) d 71 (124, [xrv o0, .int x1, .int x2, .int x3, .int x4, .int x5, .int x6], [], h) (none, r) := by
  unfold j71_124 at hf
  refine sh_aload (i' := 0) (n := 1) i71_124 (Or.inr ⟨rfl, by decide⟩) rfl ?_
  refine ev_do i71_125 rfl ?_
  refine ev_do i71_127 rfl ?_
  obtain ⟨_, eu_2, hf⟩ := x_bind hf
  obtain ⟨h_1, eh_1, hf⟩ := x_bind hf
  refine sh_inv (as := [.int x2, .int x6]) (z := (none, h_1)) i71_128 v71_118 (Or.inl ⟨by decide, rfl⟩) m74 rfl (Nat.le_of_ble_eq_true rfl) eu_2 (fn74_call (by omega) eh_1) ?_
  refine sh_goto (t := 147) i71_131 rfl ?_
  exact j71_147_ok hd hf
def j71_93  (o0 : Option Nat) (x1 : Int32) (x2 : Int32) (x3 : Int32) (x4 : Int32) (s0 : Int32) (h : xH) : Option xH := (xgR h o0 7 2).bind fun a_1 => (xcv h a_1 9).bind fun _ => (fn106 a_1 s0 x2 h).bind fun r_2 => (xgR r_2.2 o0 7 3).bind fun a_3 => (if a_3 = none then j71_124 o0 x1 x2 x3 x4 s0 r_2.1 r_2.2 else (xgR r_2.2 o0 7 3).bind fun a_5 => (xcv r_2.2 a_5 0).bind fun _ => (fn2 a_5 r_2.2).bind fun r_6 => (if r_6.1 = 0 then j71_124 o0 x1 x2 x3 x4 s0 r_2.1 r_6.2 else (if x2 ≤ r_2.1 then j71_147 o0 x1 x2 x3 x4 s0 r_2.1 r_6.2 else (xcv r_6.2 o0 7).bind fun _ => (fn62 o0 r_2.1 2 r_6.2).bind fun h_9 => j71_147 o0 x1 x2 x3 x4 s0 r_2.1 h_9)))
theorem j71_93_ok {xs : List Int32} {d : Nat} (hd : 7 ≤ d) {u5 : Value} {u6 : Value} {o0 : Option Nat} {x1 : Int32} {x2 : Int32} {x3 : Int32} {x4 : Int32} {s0 : Int32} {h : xH} {r : xH} (hu5 : u5.category = 1) (hu6 : u6.category = 1) (hf : j71_93 o0 x1 x2 x3 x4 s0 h = some r) : xEv (xTa xs) d 71 (93, [xrv o0, .int x1, .int x2, .int x3, .int x4, u5, u6], [.int s0], h) (none, r) := by
  unfold j71_93 at hf
  refine sh_istore (i' := 5) (n := 2) i71_93 (Or.inl rfl) (xokst_of (Nat.le_of_ble_eq_true rfl) rfl) ?_
  refine sh_aload (i' := 0) (n := 1) i71_95 (Or.inr ⟨rfl, by decide⟩) rfl ?_
  obtain ⟨a_1, ea_1, hf⟩ := x_bind hf
  refine sh_getR i71_96 f71_29 ea_1 ?_
  refine ev_do i71_99 rfl ?_
  refine ev_do i71_101 rfl ?_
  obtain ⟨_, eu_12, hf⟩ := x_bind hf
  obtain ⟨r_2, er_2, hf⟩ := x_bind hf
  refine sh_inv (as := [.int x2, .int s0]) (z := (some (.int r_2.1), r_2.2)) i71_102 v71_55 (Or.inl ⟨by decide, rfl⟩) m106 rfl (Nat.le_of_ble_eq_true rfl) eu_12 (fn106_call (by omega) er_2) ?_
  refine sh_istore (i' := 6) (n := 2) i71_105 (Or.inl rfl) (xokst_of (Nat.le_of_ble_eq_true rfl) rfl) ?_
  refine sh_aload (i' := 0) (n := 1) i71_107 (Or.inr ⟨rfl, by decide⟩) rfl ?_
  obtain ⟨a_3, ea_3, hf⟩ := x_bind hf
  refine sh_getR i71_108 f71_30 ea_3 ?_
  refine sh_null (t := 124) i71_111 rfl (fun c_4 => ?_) (fun c_4 => ?_)
  · replace hf := x_pos c_4 hf
    exact j71_124_ok hd hf
  · replace hf := x_neg c_4 hf
    refine sh_aload (i' := 0) (n := 1) i71_114 (Or.inr ⟨rfl, by decide⟩) rfl ?_
    obtain ⟨a_5, ea_5, hf⟩ := x_bind hf
    refine sh_getR i71_115 f71_30 ea_5 ?_
    obtain ⟨_, eu_11, hf⟩ := x_bind hf
    obtain ⟨r_6, er_6, hf⟩ := x_bind hf
    refine sh_inv (as := []) (z := (some (.int r_6.1), r_6.2)) i71_118 v71_121 (Or.inl ⟨by decide, rfl⟩) m2 rfl (Nat.le_of_ble_eq_true rfl) eu_11 (fn2_call (by omega) er_6) ?_
    refine ev_if (t := 134) i71_121 rfl (fun c_7 => ?_) (fun c_7 => ?_)
    · replace hf := x_neg (show ¬ r_6.1 = 0 from c_7) hf
      refine ev_do i71_134 rfl ?_
      refine ev_do i71_136 rfl ?_
      refine ev_icmp (t := 147) i71_137 rfl (fun c_8 => ?_) (fun c_8 => ?_)
      · replace hf := x_pos (show x2 ≤ r_2.1 from c_8) hf
        exact j71_147_ok hd hf
      · replace hf := x_neg (show ¬ x2 ≤ r_2.1 from c_8) hf
        refine sh_aload (i' := 0) (n := 1) i71_140 (Or.inr ⟨rfl, by decide⟩) rfl ?_
        refine ev_do i71_141 rfl ?_
        refine ev_do i71_143 rfl ?_
        obtain ⟨_, eu_10, hf⟩ := x_bind hf
        obtain ⟨h_9, eh_9, hf⟩ := x_bind hf
        refine sh_inv (as := [.int 2, .int r_2.1]) (z := (none, h_9)) i71_144 v71_81 (Or.inl ⟨by decide, rfl⟩) m62 rfl (Nat.le_of_ble_eq_true rfl) eu_10 (fn62_call (by omega) eh_9) ?_
        exact j71_147_ok hd hf
    · replace hf := x_pos (show r_6.1 = 0 from Decidable.byContradiction (fun h9 => c_7 h9)) hf
      exact j71_124_ok hd hf
def j71_68  (o0 : Option Nat) (x1 : Int32) (x2 : Int32) (x3 : Int32) (x4 : Int32) (h : xH) : Option xH := (xcv h o0 7).bind fun _ => (fn66 o0 x4 x1 h).bind fun h_1 => (if x4 = 3 then j71_93 o0 x1 x2 x3 x4 x3 h_1 else (xcv h_1 o0 7).bind fun _ => (fn72 o0 x4 x3 x2 h_1).bind fun r_3 => j71_93 o0 x1 x2 x3 x4 r_3.1 r_3.2)
theorem j71_68_ok {xs : List Int32} {d : Nat} (hd : 7 ≤ d) {u5 : Value} {u6 : Value} {o0 : Option Nat} {x1 : Int32} {x2 : Int32} {x3 : Int32} {x4 : Int32} {h : xH} {r : xH} (hu5 : u5.category = 1) (hu6 : u6.category = 1) (hf : j71_68 o0 x1 x2 x3 x4 h = some r) : xEv (xTa xs) d 71 (68, [xrv o0, .int x1, .int x2, .int x3, .int x4, u5, u6], [], h) (none, r) := by
  unfold j71_68 at hf
  refine sh_aload (i' := 0) (n := 1) i71_68 (Or.inr ⟨rfl, by decide⟩) rfl ?_
  refine ev_do i71_69 rfl ?_
  refine ev_do i71_71 rfl ?_
  obtain ⟨_, eu_5, hf⟩ := x_bind hf
  obtain ⟨h_1, eh_1, hf⟩ := x_bind hf
  refine sh_inv (as := [.int x1, .int x4]) (z := (none, h_1)) i71_72 v71_112 (Or.inl ⟨by decide, rfl⟩) m66 rfl (Nat.le_of_ble_eq_true rfl) eu_5 (fn66_call (by omega) eh_1) ?_
  refine ev_do i71_75 rfl ?_
  refine ev_do i71_77 rfl ?_
  refine ev_icmp (t := 85) i71_78 rfl (fun c_2 => ?_) (fun c_2 => ?_)
  · replace hf := x_neg (show ¬ x4 = 3 from c_2) hf
    refine sh_aload (i' := 0) (n := 1) i71_85 (Or.inr ⟨rfl, by decide⟩) rfl ?_
    refine ev_do i71_86 rfl ?_
    refine ev_do i71_88 rfl ?_
    refine ev_do i71_89 rfl ?_
    obtain ⟨_, eu_4, hf⟩ := x_bind hf
    obtain ⟨r_3, er_3, hf⟩ := x_bind hf
    refine sh_inv (as := [.int x2, .int x3, .int x4]) (z := (some (.int r_3.1), r_3.2)) i71_90 v71_160 (Or.inl ⟨by decide, rfl⟩) m72 rfl (Nat.le_of_ble_eq_true rfl) eu_4 (fn72_call (by omega) er_3) ?_
    exact j71_93_ok hd hu5 hu6 hf
  · replace hf := x_pos (show x4 = 3 from Decidable.byContradiction (fun h9 => c_2 h9)) hf
    refine ev_do i71_81 rfl ?_
    refine sh_goto (t := 93) i71_82 rfl ?_
    exact j71_93_ok hd hu5 hu6 hf
def j71_50  (o0 : Option Nat) (x1 : Int32) (x2 : Int32) (x3 : Int32) (x4 : Int32) (h : xH) : Option xH := (xgR h o0 7 1).bind fun a_1 => (xcv h a_1 1).bind fun _ => (fn9 a_1 x4 h).bind fun r_2 => (if r_2.1 = none then j71_68 o0 x1 x2 x3 x4 r_2.2 else (xcv r_2.2 o0 7).bind fun _ => (fn62 o0 x1 5 r_2.2).bind fun h_4 => j71_68 o0 x1 x2 x3 x4 h_4)
theorem j71_50_ok {xs : List Int32} {d : Nat} (hd : 7 ≤ d) {u5 : Value} {u6 : Value} {o0 : Option Nat} {x1 : Int32} {x2 : Int32} {x3 : Int32} {x4 : Int32} {h : xH} {r : xH} (hu5 : u5.category = 1) (hu6 : u6.category = 1) (hf : j71_50 o0 x1 x2 x3 x4 h = some r) : xEv (xTa xs) d 71 (50, [xrv o0, .int x1, .int x2, .int x3, .int x4, u5, u6], [], h) (none, r) := by
  unfold j71_50 at hf
  refine sh_aload (i' := 0) (n := 1) i71_50 (Or.inr ⟨rfl, by decide⟩) rfl ?_
  obtain ⟨a_1, ea_1, hf⟩ := x_bind hf
  refine sh_getR i71_51 f71_20 ea_1 ?_
  refine ev_do i71_54 rfl ?_
  obtain ⟨_, eu_6, hf⟩ := x_bind hf
  obtain ⟨r_2, er_2, hf⟩ := x_bind hf
  refine sh_inv (as := [.int x4]) (z := (some (xrv r_2.1), r_2.2)) i71_56 v71_128 (Or.inl ⟨by decide, rfl⟩) m9 rfl (Nat.le_of_ble_eq_true rfl) eu_6 (fn9_call (by omega) er_2) ?_
  refine sh_null (t := 68) i71_59 rfl (fun c_3 => ?_) (fun c_3 => ?_)
  · replace hf := x_pos c_3 hf
    exact j71_68_ok hd hu5 hu6 hf
  · replace hf := x_neg c_3 hf
    refine sh_aload (i' := 0) (n := 1) i71_62 (Or.inr ⟨rfl, by decide⟩) rfl ?_
    refine ev_do i71_63 rfl ?_
    refine ev_do i71_64 rfl ?_
    obtain ⟨_, eu_5, hf⟩ := x_bind hf
    obtain ⟨h_4, eh_4, hf⟩ := x_bind hf
    refine sh_inv (as := [.int 5, .int x1]) (z := (none, h_4)) i71_65 v71_81 (Or.inl ⟨by decide, rfl⟩) m62 rfl (Nat.le_of_ble_eq_true rfl) eu_5 (fn62_call (by omega) eh_4) ?_
    exact j71_68_ok hd hu5 hu6 hf
def fn71 (o0 : Option Nat) (x1 : Int32) (x2 : Int32) (h : xH) : Option xH := (xgR h o0 7 2).bind fun a_1 => (xcv h a_1 9).bind fun _ => (fn105 a_1 32 (x1 + 1) x2 h).bind fun r_2 => (xcv r_2.2 o0 7).bind fun _ => (fn70 o0 (x1 + 1) r_2.1 r_2.2).bind fun r_3 => (if r_3.1 = (-1) then (xcv r_3.2 o0 7).bind fun _ => (fn62 o0 x1 2 r_3.2).bind fun h_5 => some h_5 else (if r_3.1 = 3 then j71_50 o0 x1 x2 r_2.1 r_3.1 r_3.2 else (if r_3.1 = 6 then j71_50 o0 x1 x2 r_2.1 r_3.1 r_3.2 else j71_68 o0 x1 x2 r_2.1 r_3.1 r_3.2)))
theorem fn71_call {xs : List Int32} {d : Nat} (hd : 8 ≤ d) {o0 : Option Nat} {x1 : Int32} {x2 : Int32} {h : xH} {r : xH} (hf : fn71 o0 x1 x2 h = some r) : xCall (xTa xs) d 71 [xrv o0, .int x1, .int x2] h (none, r) := by
  obtain ⟨d, rfl⟩ : ∃ d2, d = d2 + 1 := ⟨d - 1, by omega⟩
  replace hd : 7 ≤ d := by omega
  refine call_of2 (fl := [xrv o0, .int x1, .int x2]) (Ls := [xrv o0, .int x1, .int x2, .float 0, .float 0, .float 0, .float 0]) m71 (by simp [xfl, xrv_cat, xc_i, xc_j, xc_a, xc_f]) (Nat.le_of_ble_eq_true rfl) rfl ?_
  unfold fn71 at hf
  refine sh_aload (i' := 0) (n := 1) i71_0 (Or.inr ⟨rfl, by decide⟩) rfl ?_
  obtain ⟨a_1, ea_1, hf⟩ := x_bind hf
  refine sh_getR i71_1 f71_29 ea_1 ?_
  refine ev_do i71_4 rfl ?_
  refine ev_do i71_6 rfl ?_
  refine ev_do i71_7 rfl ?_
  refine ev_do i71_8 rfl ?_
  refine ev_do i71_9 rfl ?_
  obtain ⟨_, eu_10, hf⟩ := x_bind hf
  obtain ⟨r_2, er_2, hf⟩ := x_bind hf
  refine sh_inv (as := [.int x2, .int (x1 + 1), .int 32]) (z := (some (.int r_2.1), r_2.2)) i71_10 v71_51 (Or.inl ⟨by decide, rfl⟩) m105 rfl (Nat.le_of_ble_eq_true rfl) eu_10 (fn105_call (by omega) er_2) ?_
  refine sh_istore (i' := 3) (n := 1) i71_13 (Or.inr ⟨rfl, by decide⟩) (xokst_of (Nat.le_of_ble_eq_true rfl) rfl) ?_
  refine sh_aload (i' := 0) (n := 1) i71_14 (Or.inr ⟨rfl, by decide⟩) rfl ?_
  refine ev_do i71_15 rfl ?_
  refine ev_do i71_16 rfl ?_
  refine ev_do i71_17 rfl ?_
  refine ev_do i71_18 rfl ?_
  obtain ⟨_, eu_9, hf⟩ := x_bind hf
  obtain ⟨r_3, er_3, hf⟩ := x_bind hf
  refine sh_inv (as := [.int r_2.1, .int (x1 + 1)]) (z := (some (.int r_3.1), r_3.2)) i71_19 v71_157 (Or.inl ⟨by decide, rfl⟩) m70 rfl (Nat.le_of_ble_eq_true rfl) eu_9 (fn70_call (by omega) er_3) ?_
  refine sh_istore (i' := 4) (n := 2) i71_22 (Or.inl rfl) (xokst_of (Nat.le_of_ble_eq_true rfl) rfl) ?_
  refine ev_do i71_24 rfl ?_
  refine ev_do i71_26 rfl ?_
  refine ev_icmp (t := 37) i71_27 rfl (fun c_4 => ?_) (fun c_4 => ?_)
  · replace hf := x_neg (show ¬ r_3.1 = (-1) from c_4) hf
    refine ev_do i71_37 rfl ?_
    refine ev_do i71_39 rfl ?_
    refine ev_icmp (t := 50) i71_40 rfl (fun c_7 => ?_) (fun c_7 => ?_)
    · replace hf := x_pos (show r_3.1 = 3 from c_7) hf
      exact j71_50_ok hd rfl rfl hf
    · replace hf := x_neg (show ¬ r_3.1 = 3 from c_7) hf
      refine ev_do i71_43 rfl ?_
      refine ev_do i71_45 rfl ?_
      refine ev_icmp (t := 68) i71_47 rfl (fun c_8 => ?_) (fun c_8 => ?_)
      · replace hf := x_neg (show ¬ r_3.1 = 6 from c_8) hf
        exact j71_68_ok hd rfl rfl hf
      · replace hf := x_pos (show r_3.1 = 6 from Decidable.byContradiction (fun h9 => c_8 h9)) hf
        exact j71_50_ok hd rfl rfl hf
  · replace hf := x_pos (show r_3.1 = (-1) from Decidable.byContradiction (fun h9 => c_4 h9)) hf
    refine sh_aload (i' := 0) (n := 1) i71_30 (Or.inr ⟨rfl, by decide⟩) rfl ?_
    refine ev_do i71_31 rfl ?_
    refine ev_do i71_32 rfl ?_
    obtain ⟨_, eu_6, hf⟩ := x_bind hf
    obtain ⟨h_5, eh_5, hf⟩ := x_bind hf
    refine sh_inv (as := [.int 2, .int x1]) (z := (none, h_5)) i71_33 v71_81 (Or.inl ⟨by decide, rfl⟩) m62 rfl (Nat.le_of_ble_eq_true rfl) eu_6 (fn62_call (by omega) eh_5) ?_
    obtain rfl := Option.some.inj hf
    exact sh_vret i71_36 m71 rfl
end
section
def j61_184  (o0 : Option Nat) (o1 : Option Nat) (x2 : Int32) (x3 : Int32) (h : xH) : Option xH := some h
theorem j61_184_ok {xs : List Int32} {d : Nat} (hd : 8 ≤ d) {u4 : Value} {u5 : Value} {u6 : Value} {o0 : Option Nat} {o1 : Option Nat} {x2 : Int32} {x3 : Int32} {h : xH} {r : xH} (hu4 : u4.category = 1) (hu5 : u5.category = 1) (hu6 : u6.category = 1) (hf : j61_184 o0 o1 x2 x3 h = some r) : xEv (xTa xs) d 61 (184, [xrv o0, xrv o1, .int x2, .int x3, u4, u5, u6], [], h) (none, r) := by
  unfold j61_184 at hf
  obtain rfl := Option.some.inj hf
  exact sh_vret i61_184 m61 rfl
def j61_170 (k41 : Option Nat → Option Nat → Int32 → Int32 → xH → Option xH) (o0 : Option Nat) (o1 : Option Nat) (x2 : Int32) (x3 : Int32) (x4 : Int32) (x5 : Int32) (x6 : Int32) (s0 : Option Nat) (s1 : Int32) (h : xH) : Option xH := (xpF h s0 7 4 .boolean (.int s1)).bind fun h_1 => k41 o0 o1 (x4 + 1) (x3 + 1) h_1
theorem j61_170_ok {xs : List Int32} {d : Nat} (hd : 8 ≤ d) {k41 : Option Nat → Option Nat → Int32 → Int32 → xH → Option xH} (hk41 : ∀ {u4 : Value} {u5 : Value} {u6 : Value} {o0 : Option Nat} {o1 : Option Nat} {x2 : Int32} {x3 : Int32} {h : xH} {r : xH}, u4.category = 1 → u5.category = 1 → u6.category = 1 → k41 o0 o1 x2 x3 h = some r → xEv (xTa xs) d 61 (41, [xrv o0, xrv o1, .int x2, .int x3, u4, u5, u6], [], h) (none, r)) {o0 : Option Nat} {o1 : Option Nat} {x2 : Int32} {x3 : Int32} {x4 : Int32} {x5 : Int32} {x6 : Int32} {s0 : Option Nat} {s1 : Int32} {h : xH} {r : xH} (hf : j61_170 k41 o0 o1 x2 x3 x4 x5 x6 s0 s1 h = some r) : xEv (xTa xs) d 61 (170, [xrv o0, xrv o1, .int x2, .int x3, .int x4, .int x5, .int x6], [.int s1, xrv s0], h) (none, r) := by
  unfold j61_170 at hf
  obtain ⟨h_1, eh_1, hf⟩ := x_bind hf
  refine sh_put i61_170 f61_34 (by decide) rfl eh_1 ?_
  refine ev_do i61_173 rfl ?_
  refine ev_do i61_175 rfl ?_
  refine ev_do i61_176 rfl ?_
  refine sh_istore (i' := 2) (n := 1) i61_177 (Or.inr ⟨rfl, by decide⟩) (xokst_of (Nat.le_of_ble_eq_true rfl) (xrv_cat (o1))) ?_
  refine sh_inc (i' := 3) i61_178 rfl (xokst_of (Nat.le_of_ble_eq_true rfl) rfl) rfl ?_
  refine sh_goto (t := 41) i61_181 rfl ?_
  exact hk41 rfl rfl rfl hf
def j61_159 (k41 : Option Nat → Option Nat → Int32 → Int32 → xH → Option xH) (o0 : Option Nat) (o1 : Option Nat) (x2 : Int32) (x3 : Int32) (x4 : Int32) (x5 : Int32) (x6 : Int32) (h : xH) : Option xH := (if x6 = 0 then j61_170 k41 o0 o1 x2 x3 x4 x5 x6 o0 1 h else j61_170 k41 o0 o1 x2 x3 x4 x5 x6 o0 0 h)
theorem j61_159_ok {xs : List Int32} {d : Nat} (hd : 8 ≤ d) {k41 : Option Nat → Option Nat → Int32 → Int32 → xH → Option xH} (hk41 : ∀ {u4 : Value} {u5 : Value} {u6 : Value} {o0 : Option Nat} {o1 : Option Nat} {x2 : Int32} {x3 : Int32} {h : xH} {r : xH}, u4.category = 1 → u5.category = 1 → u6.category = 1 → k41 o0 o1 x2 x3 h = some r → xEv (xTa xs) d 61 (41, [xrv o0, xrv o1, .int x2, .int x3, u4, u5, u6], [], h) (none, r)) {o0 : Option Nat} {o1 : Option Nat} {x2 : Int32} {x3 : Int32} {x4 : Int32} {x5 : Int32} {x6 : Int32} {h : xH} {r : xH} (hf : j61_159 k41 o0 o1 x2 x3 x4 x5 x6 h = some r) : xEv (xTa xs) d 61 (159, [xrv o0, xrv o1, .int x2, .int x3, .int x4, .int x5, .int x6], [], h) (none, r) := by
  unfold j61_159 at hf
  refine sh_aload (i' := 0) (n := 1) i61_159 (Or.inr ⟨rfl, by decide⟩) rfl ?_
  refine ev_do i61_160 rfl ?_
  refine ev_if (t := 169) i61_162 rfl (fun c_1 => ?_) (fun c_1 => ?_)
  · replace hf := x_neg (show ¬ x6 = 0 from c_1) hf
    refine ev_do i61_169 rfl ?_
    exact j61_170_ok hd hk41 hf
  · replace hf := x_pos (show x6 = 0 from Decidable.byContradiction (fun h9 => c_1 h9)) hf
    refine ev_do i61_165 rfl ?_
    refine sh_goto (t := 170) i61_166 rfl ?_
    exact j61_170_ok hd hk41 hf
def l61_41  : Nat → Option Nat → Option Nat → Int32 → Int32 → xH → Option xH
  | 0 => fun _ _ _ _ _ => none
  | n + 1 => fun o0 o1 x2 x3 h => (if 600 ≤ x3 then j61_184 o0 o1 x2 x3 h else (xgR h o0 7 2).bind fun a_2 => (xgI h a_2 9 1).bind fun v_3 => (if v_3 ≤ x2 then j61_184 o0 o1 x2 x3 h else (xgI h o0 7 5).bind fun v_5 => (if v_5 = 0 then (xgR h o0 7 2).bind fun a_7 => (xgR h o0 7 2).bind fun a_8 => (xgI h a_8 9 1).bind fun v_9 => (xcv h a_7 9).bind fun _ => (fn105 a_7 10 x2 v_9 h).bind fun r_10 => (xgR r_10.2 o0 7 2).bind fun a_11 => (xcv r_10.2 a_11 9).bind fun _ => (fn106 a_11 x2 r_10.1 r_10.2).bind fun r_12 => (xcv r_12.2 o0 7).bind fun _ => (fn64 o0 r_12.1 r_10.1 r_12.2).bind fun r_13 => (if r_13.1 = 1 then (xcv r_13.2 o0 7).bind fun _ => (fn71 o0 r_12.1 r_10.1 r_13.2).bind fun h_15 => j61_159 (l61_41 n) o0 o1 x2 x3 r_10.1 r_12.1 r_13.1 h_15 else (if r_13.1 = 2 then (xcv r_13.2 o0 7).bind fun _ => (fn67 o0 r_12.1 r_10.1 (r_12.1 - x2) r_13.2).bind fun h_18 => j61_159 (l61_41 n) o0 o1 x2 x3 r_10.1 r_12.1 r_13.1 h_18 else (if r_13.1 = 3 then (xcv r_13.2 o0 7).bind fun _ => (fn68 o0 r_12.1 r_10.1 r_13.2).bind fun h_21 => j61_159 (l61_41 n) o0 o1 x2 x3 r_10.1 r_12.1 r_13.1 h_21 else j61_159 (l61_41 n) o0 o1 x2 x3 r_10.1 r_12.1 r_13.1 r_13.2))) else j61_184 o0 o1 x2 x3 h)))
theorem l61_41_ok {xs : List Int32} {d : Nat} (hd : 8 ≤ d) : ∀ (n : Nat) {u4 : Value} {u5 : Value} {u6 : Value} {o0 : Option Nat} {o1 : Option Nat} {x2 : Int32} {x3 : Int32} {h : xH} {r : xH} (hu4 : u4.category = 1) (hu5 : u5.category = 1) (hu6 : u6.category = 1), l61_41 n o0 o1 x2 x3 h = some r → xEv (xTa xs) d 61 (41, [xrv o0, xrv o1, .int x2, .int x3, u4, u5, u6], [], h) (none, r) := by
  intro n
  induction n with
  | zero => intros; rename_i hf; cases hf
  | succ n ih =>
    intro u4 u5 u6 o0 o1 x2 x3 h r hu4 hu5 hu6 hf
    replace hf : ((if 600 ≤ x3 then j61_184 o0 o1 x2 x3 h else (xgR h o0 7 2).bind fun a_2 => (xgI h a_2 9 1).bind fun v_3 => (if v_3 ≤ x2 then j61_184 o0 o1 x2 x3 h else (xgI h o0 7 5).bind fun v_5 => (if v_5 = 0 then (xgR h o0 7 2).bind fun a_7 => (xgR h o0 7 2).bind fun a_8 => (xgI h a_8 9 1).bind fun v_9 => (xcv h a_7 9).bind fun _ => (fn105 a_7 10 x2 v_9 h).bind fun r_10 => (xgR r_10.2 o0 7 2).bind fun a_11 => (xcv r_10.2 a_11 9).bind fun _ => (fn106 a_11 x2 r_10.1 r_10.2).bind fun r_12 => (xcv r_12.2 o0 7).bind fun _ => (fn64 o0 r_12.1 r_10.1 r_12.2).bind fun r_13 => (if r_13.1 = 1 then (xcv r_13.2 o0 7).bind fun _ => (fn71 o0 r_12.1 r_10.1 r_13.2).bind fun h_15 => j61_159 (l61_41 n) o0 o1 x2 x3 r_10.1 r_12.1 r_13.1 h_15 else (if r_13.1 = 2 then (xcv r_13.2 o0 7).bind fun _ => (fn67 o0 r_12.1 r_10.1 (r_12.1 - x2) r_13.2).bind fun h_18 => j61_159 (l61_41 n) o0 o1 x2 x3 r_10.1 r_12.1 r_13.1 h_18 else (if r_13.1 = 3 then (xcv r_13.2 o0 7).bind fun _ => (fn68 o0 r_12.1 r_10.1 r_13.2).bind fun h_21 => j61_159 (l61_41 n) o0 o1 x2 x3 r_10.1 r_12.1 r_13.1 h_21 else j61_159 (l61_41 n) o0 o1 x2 x3 r_10.1 r_12.1 r_13.1 r_13.2))) else j61_184 o0 o1 x2 x3 h)))) = some r := hf
    refine ev_do i61_41 rfl ?_
    refine ev_do i61_42 rfl ?_
    refine ev_icmp (t := 184) i61_45 rfl (fun c_1 => ?_) (fun c_1 => ?_)
    · replace hf := x_pos (show 600 ≤ x3 from c_1) hf
      exact j61_184_ok hd hu4 hu5 hu6 hf
    · replace hf := x_neg (show ¬ 600 ≤ x3 from c_1) hf
      refine ev_do i61_48 rfl ?_
      refine sh_aload (i' := 0) (n := 1) i61_49 (Or.inr ⟨rfl, by decide⟩) rfl ?_
      obtain ⟨a_2, ea_2, hf⟩ := x_bind hf
      refine sh_getR i61_50 f61_29 ea_2 ?_
      obtain ⟨v_3, ev_3, hf⟩ := x_bind hf
      refine sh_getI i61_53 f61_48 ev_3 ?_
      refine ev_icmp (t := 184) i61_56 rfl (fun c_4 => ?_) (fun c_4 => ?_)
      · replace hf := x_pos (show v_3 ≤ x2 from c_4) hf
        exact j61_184_ok hd hu4 hu5 hu6 hf
      · replace hf := x_neg (show ¬ v_3 ≤ x2 from c_4) hf
        refine sh_aload (i' := 0) (n := 1) i61_59 (Or.inr ⟨rfl, by decide⟩) rfl ?_
        obtain ⟨v_5, ev_5, hf⟩ := x_bind hf
        refine sh_getI i61_60 f61_38 ev_5 ?_
        refine ev_if (t := 184) i61_63 rfl (fun c_6 => ?_) (fun c_6 => ?_)
        · replace hf := x_neg (show ¬ v_5 = 0 from c_6) hf
          exact j61_184_ok hd hu4 hu5 hu6 hf
        · replace hf := x_pos (show v_5 = 0 from Decidable.byContradiction (fun h9 => c_6 h9)) hf
          refine sh_aload (i' := 0) (n := 1) i61_66 (Or.inr ⟨rfl, by decide⟩) rfl ?_
          obtain ⟨a_7, ea_7, hf⟩ := x_bind hf
          refine sh_getR i61_67 f61_29 ea_7 ?_
          refine ev_do i61_70 rfl ?_
          refine ev_do i61_72 rfl ?_
          refine sh_aload (i' := 0) (n := 1) i61_73 (Or.inr ⟨rfl, by decide⟩) rfl ?_
          obtain ⟨a_8, ea_8, hf⟩ := x_bind hf
          refine sh_getR i61_74 f61_29 ea_8 ?_
          obtain ⟨v_9, ev_9, hf⟩ := x_bind hf
          refine sh_getI i61_77 f61_48 ev_9 ?_
          obtain ⟨_, eu_25, hf⟩ := x_bind hf
          obtain ⟨r_10, er_10, hf⟩ := x_bind hf
          refine sh_inv (as := [.int v_9, .int x2, .int 10]) (z := (some (.int r_10.1), r_10.2)) i61_80 v61_51 (Or.inl ⟨by decide, rfl⟩) m105 rfl (Nat.le_of_ble_eq_true rfl) eu_25 (fn105_call (by omega) er_10) ?_
          refine sh_istore (i' := 4) (n := 2) i61_83 (Or.inl rfl) (xokst_of (Nat.le_of_ble_eq_true rfl) rfl) ?_
          refine sh_aload (i' := 0) (n := 1) i61_85 (Or.inr ⟨rfl, by decide⟩) rfl ?_
          obtain ⟨a_11, ea_11, hf⟩ := x_bind hf
          refine sh_getR i61_86 f61_29 ea_11 ?_
          refine ev_do i61_89 rfl ?_
          refine ev_do i61_90 rfl ?_
          obtain ⟨_, eu_24, hf⟩ := x_bind hf
          obtain ⟨r_12, er_12, hf⟩ := x_bind hf
          refine sh_inv (as := [.int r_10.1, .int x2]) (z := (some (.int r_12.1), r_12.2)) i61_92 v61_55 (Or.inl ⟨by decide, rfl⟩) m106 rfl (Nat.le_of_ble_eq_true rfl) eu_24 (fn106_call (by omega) er_12) ?_
          refine sh_istore (i' := 5) (n := 2) i61_95 (Or.inl rfl) (xokst_of (Nat.le_of_ble_eq_true rfl) rfl) ?_
          refine sh_aload (i' := 0) (n := 1) i61_97 (Or.inr ⟨rfl, by decide⟩) rfl ?_
          refine ev_do i61_98 rfl ?_
          refine ev_do i61_100 rfl ?_
          obtain ⟨_, eu_23, hf⟩ := x_bind hf
          obtain ⟨r_13, er_13, hf⟩ := x_bind hf
          refine sh_inv (as := [.int r_10.1, .int r_12.1]) (z := (some (.int r_13.1), r_13.2)) i61_102 v61_59 (Or.inl ⟨by decide, rfl⟩) m64 rfl (Nat.le_of_ble_eq_true rfl) eu_23 (fn64_call (by omega) er_13) ?_
          refine sh_istore (i' := 6) (n := 2) i61_105 (Or.inl rfl) (xokst_of (Nat.le_of_ble_eq_true rfl) rfl) ?_
          refine ev_do i61_107 rfl ?_
          refine ev_do i61_109 rfl ?_
          refine ev_icmp (t := 124) i61_110 rfl (fun c_14 => ?_) (fun c_14 => ?_)
          · replace hf := x_neg (show ¬ r_13.1 = 1 from c_14) hf
            refine ev_do i61_124 rfl ?_
            refine ev_do i61_126 rfl ?_
            refine ev_icmp (t := 145) i61_127 rfl (fun c_17 => ?_) (fun c_17 => ?_)
            · replace hf := x_neg (show ¬ r_13.1 = 2 from c_17) hf
              refine ev_do i61_145 rfl ?_
              refine ev_do i61_147 rfl ?_
              refine ev_icmp (t := 159) i61_148 rfl (fun c_20 => ?_) (fun c_20 => ?_)
              · replace hf := x_neg (show ¬ r_13.1 = 3 from c_20) hf
                exact j61_159_ok hd ih hf
              · replace hf := x_pos (show r_13.1 = 3 from Decidable.byContradiction (fun h9 => c_20 h9)) hf
                refine sh_aload (i' := 0) (n := 1) i61_151 (Or.inr ⟨rfl, by decide⟩) rfl ?_
                refine ev_do i61_152 rfl ?_
                refine ev_do i61_154 rfl ?_
                obtain ⟨_, eu_22, hf⟩ := x_bind hf
                obtain ⟨h_21, eh_21, hf⟩ := x_bind hf
                refine sh_inv (as := [.int r_10.1, .int r_12.1]) (z := (none, h_21)) i61_156 v61_70 (Or.inl ⟨by decide, rfl⟩) m68 rfl (Nat.le_of_ble_eq_true rfl) eu_22 (fn68_call (by omega) eh_21) ?_
                exact j61_159_ok hd ih hf
            · replace hf := x_pos (show r_13.1 = 2 from Decidable.byContradiction (fun h9 => c_17 h9)) hf
              refine sh_aload (i' := 0) (n := 1) i61_130 (Or.inr ⟨rfl, by decide⟩) rfl ?_
              refine ev_do i61_131 rfl ?_
              refine ev_do i61_133 rfl ?_
              refine ev_do i61_135 rfl ?_
              refine ev_do i61_137 rfl ?_
              refine ev_do i61_138 rfl ?_
              obtain ⟨_, eu_19, hf⟩ := x_bind hf
              obtain ⟨h_18, eh_18, hf⟩ := x_bind hf
              refine sh_inv (as := [.int (r_12.1 - x2), .int r_10.1, .int r_12.1]) (z := (none, h_18)) i61_139 v61_66 (Or.inl ⟨by decide, rfl⟩) m67 rfl (Nat.le_of_ble_eq_true rfl) eu_19 (fn67_call (by omega) eh_18) ?_
              refine sh_goto (t := 159) i61_142 rfl ?_
              exact j61_159_ok hd ih hf
          · replace hf := x_pos (show r_13.1 = 1 from Decidable.byContradiction (fun h9 => c_14 h9)) hf
            refine sh_aload (i' := 0) (n := 1) i61_113 (Or.inr ⟨rfl, by decide⟩) rfl ?_
            refine ev_do i61_114 rfl ?_
            refine ev_do i61_116 rfl ?_
            obtain ⟨_, eu_16, hf⟩ := x_bind hf
            obtain ⟨h_15, eh_15, hf⟩ := x_bind hf
            refine sh_inv (as := [.int r_10.1, .int r_12.1]) (z := (none, h_15)) i61_118 v61_62 (Or.inl ⟨by decide, rfl⟩) m71 rfl (Nat.le_of_ble_eq_true rfl) eu_16 (fn71_call (by omega) eh_15) ?_
            refine sh_goto (t := 159) i61_121 rfl ?_
            exact j61_159_ok hd ih hf
def fn61 (o0 : Option Nat) (o1 : Option Nat) (h : xH) : Option xH := (xpF h o0 7 1 (.object "DocFormat$Comment") (xrv o1)).bind fun h_1 => (xgR h_1 o1 1 0).bind fun a_2 => (xpF h_1 o0 7 2 (.object "DocFormat$Text") (xrv a_2)).bind fun h_3 => (xpF h_3 o0 7 3 (.object "DocFormat$Block") (xrv none)).bind fun h_4 => (xpF h_4 o0 7 4 .boolean (.int 1)).bind fun h_5 => (xpF h_5 o0 7 5 .int (.int 0)).bind fun h_6 => (xpF h_6 o0 7 6 .int (.int 0)).bind fun h_7 => (xcv h_7 o0 7).bind fun _ => (fn63 o0 h_7).bind fun h_8 => l61_41 xFuel o0 o1 0 0 h_8
theorem fn61_call {xs : List Int32} {d : Nat} (hd : 9 ≤ d) {o0 : Option Nat} {o1 : Option Nat} {h : xH} {r : xH} (hf : fn61 o0 o1 h = some r) : xCall (xTa xs) d 61 [xrv o0, xrv o1] h (none, r) := by
  obtain ⟨d, rfl⟩ : ∃ d2, d = d2 + 1 := ⟨d - 1, by omega⟩
  replace hd : 8 ≤ d := by omega
  refine call_of2 (fl := [xrv o0, xrv o1]) (Ls := [xrv o0, xrv o1, .float 0, .float 0, .float 0, .float 0, .float 0]) m61 (by simp [xfl, xrv_cat, xc_i, xc_j, xc_a, xc_f]) (Nat.le_of_ble_eq_true rfl) rfl ?_
  unfold fn61 at hf
  refine sh_aload (i' := 0) (n := 1) i61_0 (Or.inr ⟨rfl, by decide⟩) rfl ?_
  refine sh_aload (i' := 1) (n := 1) i61_1 (Or.inr ⟨rfl, by decide⟩) rfl ?_
  obtain ⟨h_1, eh_1, hf⟩ := x_bind hf
  refine sh_put i61_2 f61_20 (by decide) rfl eh_1 ?_
  refine sh_aload (i' := 0) (n := 1) i61_5 (Or.inr ⟨rfl, by decide⟩) rfl ?_
  refine sh_aload (i' := 1) (n := 1) i61_6 (Or.inr ⟨rfl, by decide⟩) rfl ?_
  obtain ⟨a_2, ea_2, hf⟩ := x_bind hf
  refine sh_getR i61_7 f61_24 ea_2 ?_
  obtain ⟨h_3, eh_3, hf⟩ := x_bind hf
  refine sh_put i61_10 f61_29 (by decide) rfl eh_3 ?_
  refine sh_aload (i' := 0) (n := 1) i61_13 (Or.inr ⟨rfl, by decide⟩) rfl ?_
  refine sh_cnull i61_14 ?_
  obtain ⟨h_4, eh_4, hf⟩ := x_bind hf
  refine sh_put i61_15 f61_30 (by decide) rfl eh_4 ?_
  refine sh_aload (i' := 0) (n := 1) i61_18 (Or.inr ⟨rfl, by decide⟩) rfl ?_
  refine ev_do i61_19 rfl ?_
  obtain ⟨h_5, eh_5, hf⟩ := x_bind hf
  refine sh_put i61_20 f61_34 (by decide) rfl eh_5 ?_
  refine sh_aload (i' := 0) (n := 1) i61_23 (Or.inr ⟨rfl, by decide⟩) rfl ?_
  refine ev_do i61_24 rfl ?_
  obtain ⟨h_6, eh_6, hf⟩ := x_bind hf
  refine sh_put i61_25 f61_38 (by decide) rfl eh_6 ?_
  refine sh_aload (i' := 0) (n := 1) i61_28 (Or.inr ⟨rfl, by decide⟩) rfl ?_
  refine ev_do i61_29 rfl ?_
  obtain ⟨h_7, eh_7, hf⟩ := x_bind hf
  refine sh_put i61_30 f61_42 (by decide) rfl eh_7 ?_
  refine sh_aload (i' := 0) (n := 1) i61_33 (Or.inr ⟨rfl, by decide⟩) rfl ?_
  obtain ⟨_, eu_9, hf⟩ := x_bind hf
  obtain ⟨h_8, eh_8, hf⟩ := x_bind hf
  refine sh_inv (as := []) (z := (none, h_8)) i61_34 v61_45 (Or.inl ⟨by decide, rfl⟩) m63 rfl (Nat.le_of_ble_eq_true rfl) eu_9 (fn63_call (by omega) eh_8) ?_
  refine ev_do i61_37 rfl ?_
  refine sh_istore (i' := 2) (n := 1) i61_38 (Or.inr ⟨rfl, by decide⟩) (xokst_of (Nat.le_of_ble_eq_true rfl) (xrv_cat (o1))) ?_
  refine ev_do i61_39 rfl ?_
  refine sh_istore (i' := 3) (n := 1) i61_40 (Or.inr ⟨rfl, by decide⟩) (xokst_of (Nat.le_of_ble_eq_true rfl) rfl) ?_
  exact l61_41_ok hd xFuel rfl rfl rfl hf
end
section
def fn81 (o0 : Option Nat) (h : xH) : Option xH := (o0).bind fun a_1 => (xnA h 16 .null 40).bind fun h_2 => (xpF h_2 o0 8 0 (.array (.object "DocFormat$Entry")) (xrv (some h.1))).bind fun h_3 => some h_3
theorem fn81_call {xs : List Int32} {d : Nat} (hd : 2 ≤ d) {o0 : Option Nat} {h : xH} {r : xH} (hf : fn81 o0 h = some r) : xCall (xTa xs) d 81 [xrv o0] h (none, r) := by
  obtain ⟨d, rfl⟩ : ∃ d2, d = d2 + 1 := ⟨d - 1, by omega⟩
  replace hd : 1 ≤ d := by omega
  refine call_of2 (fl := [xrv o0]) (Ls := [xrv o0]) m81 (by simp [xfl, xrv_cat, xc_i, xc_j, xc_a, xc_f]) (Nat.le_of_ble_eq_true rfl) rfl ?_
  unfold fn81 at hf
  refine sh_aload (i' := 0) (n := 1) i81_0 (Or.inr ⟨rfl, by decide⟩) rfl ?_
  obtain ⟨a_1, ea_1, hf⟩ := x_bind hf
  refine sh_obj i81_1 v81_3 (Nat.le_of_ble_eq_true rfl) ea_1 ?_
  refine sh_aload (i' := 0) (n := 1) i81_4 (Or.inr ⟨rfl, by decide⟩) rfl ?_
  refine ev_do i81_5 rfl ?_
  obtain ⟨h_2, eh_2, hf⟩ := x_bind hf
  refine sh_newa (tg := 16) (n := 3) (v := .null) i81_7 (fun _ _ _ => by show (match xtA (xTa xs) 81 9 with | some tg => if 15 ≤ tg ∧ tg < 19 then xmka tg 3 .null _ _ _ _ else none | none => none) = _; rw [a81_9]; rfl) eh_2 ?_
  obtain ⟨h_3, eh_3, hf⟩ := x_bind hf
  refine sh_put i81_10 f81_11 (by decide) rfl eh_3 ?_
  obtain rfl := Option.some.inj hf
  exact sh_vret i81_13 m81 rfl
end
section
def fn82 (o0 : Option Nat) (o1 : Option Nat) (o2 : Option Nat) (x3 : Int32) (o4 : Option Nat) (h : xH) : Option (Int32 × xH) := (xgI h o0 8 1).bind fun v_1 => (xgR h o0 8 0).bind fun a_2 => (xaN h a_2).bind fun v_3 => (if v_1 < v_3 then (some (xnew h (2, [.int 0, .null, .null, .null, .int 0, .null, .int 0, .null, .int 0]))).bind fun h_5 => (xgI h_5 o0 8 1).bind fun v_6 => (xcv h_5 (some h.1) 2).bind fun _ => (fn11 (some h.1) v_6 o1 o2 x3 h_5).bind fun h_7 => (xgR h_7 (some h.1) 2 1).bind fun a_8 => (xcv h_7 a_8 9).bind fun _ => (fn102 a_8 o4 h_7).bind fun h_9 => (xgR h_9 o0 8 0).bind fun a_10 => (xgI h_9 o0 8 1).bind fun v_11 => (xaT h_9 a_10 v_11 (some h.1)).bind fun h_12 => (xgI h_12 o0 8 1).bind fun v_13 => (xpF h_12 o0 8 1 .int (.int (v_13 + 1))).bind fun h_14 => (xgI h_14 (some h.1) 2 0).bind fun v_15 => some (v_15, h_14) else some ((-3), h))
theorem fn82_call {xs : List Int32} {d : Nat} (hd : 5 ≤ d) {o0 : Option Nat} {o1 : Option Nat} {o2 : Option Nat} {x3 : Int32} {o4 : Option Nat} {h : xH} {r : (Int32 × xH)} (hf : fn82 o0 o1 o2 x3 o4 h = some r) : xCall (xTa xs) d 82 [xrv o0, xrv o1, xrv o2, .int x3, xrv o4] h (some (.int r.1), r.2) := by
  obtain ⟨d, rfl⟩ : ∃ d2, d = d2 + 1 := ⟨d - 1, by omega⟩
  replace hd : 4 ≤ d := by omega
  refine call_of2 (fl := [xrv o0, xrv o1, xrv o2, .int x3, xrv o4]) (Ls := [xrv o0, xrv o1, xrv o2, .int x3, xrv o4, .float 0]) m82 (by simp [xfl, xrv_cat, xc_i, xc_j, xc_a, xc_f]) (Nat.le_of_ble_eq_true rfl) rfl ?_
  unfold fn82 at hf
  refine sh_aload (i' := 0) (n := 1) i82_0 (Or.inr ⟨rfl, by decide⟩) rfl ?_
  obtain ⟨v_1, ev_1, hf⟩ := x_bind hf
  refine sh_getI i82_1 f82_17 ev_1 ?_
  refine sh_aload (i' := 0) (n := 1) i82_4 (Or.inr ⟨rfl, by decide⟩) rfl ?_
  obtain ⟨a_2, ea_2, hf⟩ := x_bind hf
  refine sh_getR i82_5 f82_11 ea_2 ?_
  obtain ⟨v_3, ev_3, hf⟩ := x_bind hf
  refine sh_len i82_8 ev_3 ?_
  refine ev_icmp (t := 15) i82_9 rfl (fun c_4 => ?_) (fun c_4 => ?_)
  · replace hf := x_pos (show v_1 < v_3 from c_4) hf
    obtain ⟨h_5, eh_5, hf⟩ := x_bind hf
    refine sh_new (fs := [.int 0, .null, .null, .null, .int 0, .null, .int 0, .null, .int 0]) i82_15 c82_9 (by decide) rfl ?_
    rw [Option.some.inj eh_5]
    refine sh_dup i82_18 (xrv_cat (some h.1)) ?_
    refine sh_aload (i' := 0) (n := 1) i82_19 (Or.inr ⟨rfl, by decide⟩) rfl ?_
    obtain ⟨v_6, ev_6, hf⟩ := x_bind hf
    refine sh_getI i82_20 f82_17 ev_6 ?_
    refine sh_aload (i' := 1) (n := 1) i82_23 (Or.inr ⟨rfl, by decide⟩) rfl ?_
    refine sh_aload (i' := 2) (n := 1) i82_24 (Or.inr ⟨rfl, by decide⟩) rfl ?_
    refine ev_do i82_25 rfl ?_
    obtain ⟨_, eu_17, hf⟩ := x_bind hf
    obtain ⟨h_7, eh_7, hf⟩ := x_bind hf
    refine sh_inv (as := [.int x3, xrv o2, xrv o1, .int v_6]) (z := (none, h_7)) i82_26 v82_21 (Or.inr ⟨by decide, rfl⟩) m11 rfl (by simp [xcat, xrv_cat, xc_i, xc_j, xc_a, xc_f]) eu_17 (fn11_call (by omega) eh_7) ?_
    refine sh_astore (i' := 5) (n := 2) i82_29 (Or.inl rfl) (xokst_of (Nat.le_of_ble_eq_true rfl) (xrv_cat (o4))) ?_
    refine sh_aload (i' := 5) (n := 2) i82_31 (Or.inl rfl) rfl ?_
    obtain ⟨a_8, ea_8, hf⟩ := x_bind hf
    refine sh_getR i82_33 f82_24 ea_8 ?_
    refine sh_aload (i' := 4) (n := 2) i82_36 (Or.inl rfl) rfl ?_
    obtain ⟨_, eu_16, hf⟩ := x_bind hf
    obtain ⟨h_9, eh_9, hf⟩ := x_bind hf
    refine sh_inv (as := [xrv o4]) (z := (none, h_9)) i82_38 v82_28 (Or.inl ⟨by decide, rfl⟩) m102 rfl (Nat.le_of_ble_eq_true rfl) eu_16 (fn102_call (by omega) eh_9) ?_
    refine sh_aload (i' := 0) (n := 1) i82_41 (Or.inr ⟨rfl, by decide⟩) rfl ?_
    obtain ⟨a_10, ea_10, hf⟩ := x_bind hf
    refine sh_getR i82_42 f82_11 ea_10 ?_
    refine sh_aload (i' := 0) (n := 1) i82_45 (Or.inr ⟨rfl, by decide⟩) rfl ?_
    obtain ⟨v_11, ev_11, hf⟩ := x_bind hf
    refine sh_getI i82_46 f82_17 ev_11 ?_
    refine sh_aload (i' := 5) (n := 2) i82_49 (Or.inl rfl) rfl ?_
    obtain ⟨h_12, eh_12, hf⟩ := x_bind hf
    refine sh_asT i82_51 eh_12 ?_
    refine sh_aload (i' := 0) (n := 1) i82_52 (Or.inr ⟨rfl, by decide⟩) rfl ?_
    refine sh_dup i82_53 (xrv_cat (o0)) ?_
    obtain ⟨v_13, ev_13, hf⟩ := x_bind hf
    refine sh_getI i82_54 f82_17 ev_13 ?_
    refine ev_do i82_57 rfl ?_
    refine ev_do i82_58 rfl ?_
    obtain ⟨h_14, eh_14, hf⟩ := x_bind hf
    refine sh_put i82_59 f82_17 (by decide) rfl eh_14 ?_
    refine sh_aload (i' := 5) (n := 2) i82_62 (Or.inl rfl) rfl ?_
    obtain ⟨v_15, ev_15, hf⟩ := x_bind hf
    refine sh_getI i82_64 f82_34 ev_15 ?_
    obtain rfl := Option.some.inj hf
    exact sh_iret i82_67 m82 rfl rfl
  · replace hf := x_neg (show ¬ v_1 < v_3 from c_4) hf
    refine ev_do i82_12 rfl ?_
    obtain rfl := Option.some.inj hf
    exact sh_iret i82_14 m82 rfl rfl
end
section
def j83_22  (o0 : Option Nat) (x1 : Int32) (s0 : Option Nat) (h : xH) : Option (Option Nat × xH) := some (s0, h)
theorem j83_22_ok {xs : List Int32} {d : Nat} (hd : 1 ≤ d) {o0 : Option Nat} {x1 : Int32} {s0 : Option Nat} {h : xH} {r : (Option Nat × xH)} (hf : j83_22 o0 x1 s0 h = some r) : xEv (xTa xs) d 83 (22, [xrv o0, .int x1], [xrv s0], h) (some (xrv r.1), r.2) := by
  unfold j83_22 at hf
  obtain rfl := Option.some.inj hf
  exact sh_aret i83_22 m83 rfl
def j83_12  (o0 : Option Nat) (x1 : Int32) (h : xH) : Option (Option Nat × xH) := j83_22 o0 x1 none h
theorem j83_12_ok {xs : List Int32} {d : Nat} (hd : 1 ≤ d) {o0 : Option Nat} {x1 : Int32} {h : xH} {r : (Option Nat × xH)} (hf : j83_12 o0 x1 h = some r) : xEv (xTa xs) d 83 (12, [xrv o0, .int x1], [], h) (some (xrv r.1), r.2) := by
  unfold j83_12 at hf
  refine sh_cnull i83_12 ?_
  refine sh_goto (t := 22) i83_13 rfl ?_
  exact j83_22_ok hd hf
def fn83 (o0 : Option Nat) (x1 : Int32) (h : xH) : Option (Option Nat × xH) := (if x1 < 0 then j83_12 o0 x1 h else (xgI h o0 8 1).bind fun v_2 => (if x1 < v_2 then (xgR h o0 8 0).bind fun a_4 => (xaR h a_4 x1).bind fun a_5 => j83_22 o0 x1 a_5 h else j83_12 o0 x1 h))
theorem fn83_call {xs : List Int32} {d : Nat} (hd : 2 ≤ d) {o0 : Option Nat} {x1 : Int32} {h : xH} {r : (Option Nat × xH)} (hf : fn83 o0 x1 h = some r) : xCall (xTa xs) d 83 [xrv o0, .int x1] h (some (xrv r.1), r.2) := by
  obtain ⟨d, rfl⟩ : ∃ d2, d = d2 + 1 := ⟨d - 1, by omega⟩
  replace hd : 1 ≤ d := by omega
  refine call_of2 (fl := [xrv o0, .int x1]) (Ls := [xrv o0, .int x1]) m83 (by simp [xfl, xrv_cat, xc_i, xc_j, xc_a, xc_f]) (Nat.le_of_ble_eq_true rfl) rfl ?_
  unfold fn83 at hf
  refine ev_do i83_0 rfl ?_
  refine ev_if (t := 12) i83_1 rfl (fun c_1 => ?_) (fun c_1 => ?_)
  · replace hf := x_pos (show x1 < 0 from c_1) hf
    exact j83_12_ok hd hf
  · replace hf := x_neg (show ¬ x1 < 0 from c_1) hf
    refine ev_do i83_4 rfl ?_
    refine sh_aload (i' := 0) (n := 1) i83_5 (Or.inr ⟨rfl, by decide⟩) rfl ?_
    obtain ⟨v_2, ev_2, hf⟩ := x_bind hf
    refine sh_getI i83_6 f83_17 ev_2 ?_
    refine ev_icmp (t := 16) i83_9 rfl (fun c_3 => ?_) (fun c_3 => ?_)
    · replace hf := x_pos (show x1 < v_2 from c_3) hf
      refine sh_aload (i' := 0) (n := 1) i83_16 (Or.inr ⟨rfl, by decide⟩) rfl ?_
      obtain ⟨a_4, ea_4, hf⟩ := x_bind hf
      refine sh_getR i83_17 f83_11 ea_4 ?_
      refine ev_do i83_20 rfl ?_
      obtain ⟨a_5, ea_5, hf⟩ := x_bind hf
      refine sh_aldR i83_21 ea_5 ?_
      exact j83_22_ok hd hf
    · replace hf := x_neg (show ¬ x1 < v_2 from c_3) hf
      exact j83_12_ok hd hf
end
