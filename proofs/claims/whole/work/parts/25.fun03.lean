section
def j101_17  (o0 : Option Nat) (x1 : Int32) (h : xH) : Option xH := some h
theorem j101_17_ok {xs : List Int32} {d : Nat} (hd : 1 ≤ d) {o0 : Option Nat} {x1 : Int32} {h : xH} {r : xH} (hf : j101_17 o0 x1 h = some r) : xEv (xTa xs) d 101 (17, [xrv o0, .int x1], [], h) (none, r) := by
  unfold j101_17 at hf
  obtain rfl := Option.some.inj hf
  exact sh_vret i101_17 m101 rfl
def fn101 (o0 : Option Nat) (x1 : Int32) (h : xH) : Option xH := (if x1 < 0 then j101_17 o0 x1 h else (xgI h o0 9 1).bind fun v_2 => (if v_2 ≤ x1 then j101_17 o0 x1 h else (xpF h o0 9 1 .int (.int x1)).bind fun h_4 => j101_17 o0 x1 h_4))
theorem fn101_call {xs : List Int32} {d : Nat} (hd : 2 ≤ d) {o0 : Option Nat} {x1 : Int32} {h : xH} {r : xH} (hf : fn101 o0 x1 h = some r) : xCall (xTa xs) d 101 [xrv o0, .int x1] h (none, r) := by
  obtain ⟨d, rfl⟩ : ∃ d2, d = d2 + 1 := ⟨d - 1, by omega⟩
  replace hd : 1 ≤ d := by omega
  refine call_of2 (fl := [xrv o0, .int x1]) (Ls := [xrv o0, .int x1]) m101 (by simp [xfl, xrv_cat, xc_i, xc_j, xc_a, xc_f]) (Nat.le_of_ble_eq_true rfl) rfl ?_
  unfold fn101 at hf
  refine ev_do i101_0 rfl ?_
  refine ev_if (t := 17) i101_1 rfl (fun c_1 => ?_) (fun c_1 => ?_)
  · replace hf := x_pos (show x1 < 0 from c_1) hf
    exact j101_17_ok hd hf
  · replace hf := x_neg (show ¬ x1 < 0 from c_1) hf
    refine ev_do i101_4 rfl ?_
    refine sh_aload (i' := 0) (n := 1) i101_5 (Or.inr ⟨rfl, by decide⟩) rfl ?_
    obtain ⟨v_2, ev_2, hf⟩ := x_bind hf
    refine sh_getI i101_6 f101_21 ev_2 ?_
    refine ev_icmp (t := 17) i101_9 rfl (fun c_3 => ?_) (fun c_3 => ?_)
    · replace hf := x_pos (show v_2 ≤ x1 from c_3) hf
      exact j101_17_ok hd hf
    · replace hf := x_neg (show ¬ v_2 ≤ x1 from c_3) hf
      refine sh_aload (i' := 0) (n := 1) i101_12 (Or.inr ⟨rfl, by decide⟩) rfl ?_
      refine ev_do i101_13 rfl ?_
      obtain ⟨h_4, eh_4, hf⟩ := x_bind hf
      refine sh_put i101_14 f101_21 (by decide) rfl eh_4 ?_
      exact j101_17_ok hd hf
end
section
def j26_78 (k13 : Option Nat → Option Nat → Int32 → xH → Option xH) (o0 : Option Nat) (o1 : Option Nat) (x2 : Int32) (o3 : Option Nat) (h : xH) : Option xH := k13 o0 o1 (x2 + 1) h
theorem j26_78_ok {xs : List Int32} {d : Nat} (hd : 5 ≤ d) {k13 : Option Nat → Option Nat → Int32 → xH → Option xH} (hk13 : ∀ {u3 : Value} {o0 : Option Nat} {o1 : Option Nat} {x2 : Int32} {h : xH} {r : xH}, u3.category = 1 → k13 o0 o1 x2 h = some r → xEv (xTa xs) d 26 (13, [xrv o0, xrv o1, .int x2, u3], [], h) (none, r)) {o0 : Option Nat} {o1 : Option Nat} {x2 : Int32} {o3 : Option Nat} {h : xH} {r : xH} (hf : j26_78 k13 o0 o1 x2 o3 h = some r) : xEv (xTa xs) d 26 (78, [xrv o0, xrv o1, .int x2, xrv o3], [], h) (none, r) := by
  unfold j26_78 at hf
  refine sh_inc (i' := 2) i26_78 rfl (xokst_of (Nat.le_of_ble_eq_true rfl) (xrv_cat (o1))) rfl ?_
  refine sh_goto (t := 13) i26_81 rfl ?_
  exact hk13 (xrv_cat (o3)) hf
def l26_13  : Nat → Option Nat → Option Nat → Int32 → xH → Option xH
  | 0 => fun _ _ _ _ => none
  | n + 1 => fun o0 o1 x2 h => (xgI h o1 5 4).bind fun v_1 => (if v_1 < x2 then some h else (xcv h o1 5).bind fun _ => (fn57 o1 x2 h).bind fun r_3 => (if r_3.1 = none then j26_78 (l26_13 n) o0 o1 x2 r_3.1 r_3.2 else (xgR r_3.2 o0 3 2).bind fun a_5 => (xcv r_3.2 a_5 9).bind fun _ => (fn101 a_5 0 r_3.2).bind fun h_6 => (xgR h_6 o0 3 2).bind fun a_7 => (fn27 a_7 x2 h_6).bind fun h_8 => (xgR h_8 o0 3 2).bind fun a_9 => (xgR h_8 o0 3 2).bind fun a_10 => (xgI h_8 a_10 9 1).bind fun v_11 => (xcv h_8 o1 5).bind fun _ => (fn54 o1 a_9 0 v_11 h_8).bind fun h_12 => (xcv h_12 o1 5).bind fun _ => (fn52 o1 32 h_12).bind fun h_13 => (xcv h_13 o1 5).bind fun _ => (fn55 o1 r_3.1 h_13).bind fun h_14 => (xcv h_14 o1 5).bind fun _ => (fn56 o1 h_14).bind fun h_15 => j26_78 (l26_13 n) o0 o1 x2 r_3.1 h_15))
theorem l26_13_ok {xs : List Int32} {d : Nat} (hd : 5 ≤ d) : ∀ (n : Nat) {u3 : Value} {o0 : Option Nat} {o1 : Option Nat} {x2 : Int32} {h : xH} {r : xH} (hu3 : u3.category = 1), l26_13 n o0 o1 x2 h = some r → xEv (xTa xs) d 26 (13, [xrv o0, xrv o1, .int x2, u3], [], h) (none, r) := by
  intro n
  induction n with
  | zero => intros; rename_i hf; cases hf
  | succ n ih =>
    intro u3 o0 o1 x2 h r hu3 hf
    replace hf : ((xgI h o1 5 4).bind fun v_1 => (if v_1 < x2 then some h else (xcv h o1 5).bind fun _ => (fn57 o1 x2 h).bind fun r_3 => (if r_3.1 = none then j26_78 (l26_13 n) o0 o1 x2 r_3.1 r_3.2 else (xgR r_3.2 o0 3 2).bind fun a_5 => (xcv r_3.2 a_5 9).bind fun _ => (fn101 a_5 0 r_3.2).bind fun h_6 => (xgR h_6 o0 3 2).bind fun a_7 => (fn27 a_7 x2 h_6).bind fun h_8 => (xgR h_8 o0 3 2).bind fun a_9 => (xgR h_8 o0 3 2).bind fun a_10 => (xgI h_8 a_10 9 1).bind fun v_11 => (xcv h_8 o1 5).bind fun _ => (fn54 o1 a_9 0 v_11 h_8).bind fun h_12 => (xcv h_12 o1 5).bind fun _ => (fn52 o1 32 h_12).bind fun h_13 => (xcv h_13 o1 5).bind fun _ => (fn55 o1 r_3.1 h_13).bind fun h_14 => (xcv h_14 o1 5).bind fun _ => (fn56 o1 h_14).bind fun h_15 => j26_78 (l26_13 n) o0 o1 x2 r_3.1 h_15))) = some r := hf
    refine ev_do i26_13 rfl ?_
    refine sh_aload (i' := 1) (n := 1) i26_14 (Or.inr ⟨rfl, by decide⟩) rfl ?_
    obtain ⟨v_1, ev_1, hf⟩ := x_bind hf
    refine sh_getI i26_15 f26_117 ev_1 ?_
    refine ev_icmp (t := 84) i26_18 rfl (fun c_2 => ?_) (fun c_2 => ?_)
    · replace hf := x_pos (show v_1 < x2 from c_2) hf
      obtain rfl := Option.some.inj hf
      exact sh_vret i26_84 m26 rfl
    · replace hf := x_neg (show ¬ v_1 < x2 from c_2) hf
      refine sh_aload (i' := 1) (n := 1) i26_21 (Or.inr ⟨rfl, by decide⟩) rfl ?_
      refine ev_do i26_22 rfl ?_
      obtain ⟨_, eu_21, hf⟩ := x_bind hf
      obtain ⟨r_3, er_3, hf⟩ := x_bind hf
      refine sh_inv (as := [.int x2]) (z := (some (xrv r_3.1), r_3.2)) i26_23 v26_120 (Or.inl ⟨by decide, rfl⟩) m57 rfl (Nat.le_of_ble_eq_true rfl) eu_21 (fn57_call (by omega) er_3) ?_
      refine sh_astore (i' := 3) (n := 1) i26_26 (Or.inr ⟨rfl, by decide⟩) (xokst_of (Nat.le_of_ble_eq_true rfl) rfl) ?_
      refine sh_aload (i' := 3) (n := 1) i26_27 (Or.inr ⟨rfl, by decide⟩) rfl ?_
      refine sh_null (t := 78) i26_28 rfl (fun c_4 => ?_) (fun c_4 => ?_)
      · replace hf := x_pos c_4 hf
        exact j26_78_ok hd ih hf
      · replace hf := x_neg c_4 hf
        refine sh_aload (i' := 0) (n := 1) i26_31 (Or.inr ⟨rfl, by decide⟩) rfl ?_
        obtain ⟨a_5, ea_5, hf⟩ := x_bind hf
        refine sh_getR i26_32 f26_22 ea_5 ?_
        refine ev_do i26_35 rfl ?_
        obtain ⟨_, eu_20, hf⟩ := x_bind hf
        obtain ⟨h_6, eh_6, hf⟩ := x_bind hf
        refine sh_inv (as := [.int 0]) (z := (none, h_6)) i26_36 v26_124 (Or.inl ⟨by decide, rfl⟩) m101 rfl (Nat.le_of_ble_eq_true rfl) eu_20 (fn101_call (by omega) eh_6) ?_
        refine sh_aload (i' := 0) (n := 1) i26_39 (Or.inr ⟨rfl, by decide⟩) rfl ?_
        obtain ⟨a_7, ea_7, hf⟩ := x_bind hf
        refine sh_getR i26_40 f26_22 ea_7 ?_
        refine ev_do i26_43 rfl ?_
        obtain ⟨h_8, eh_8, hf⟩ := x_bind hf
        refine ev_sta (as := [.int x2, xrv a_7]) (z := (none, h_8)) i26_44 v26_127 (Or.inl rfl) m27 rfl (Nat.le_of_ble_eq_true rfl) (fn27_call (by omega) eh_8) ?_
        refine sh_aload (i' := 1) (n := 1) i26_47 (Or.inr ⟨rfl, by decide⟩) rfl ?_
        refine sh_aload (i' := 0) (n := 1) i26_48 (Or.inr ⟨rfl, by decide⟩) rfl ?_
        obtain ⟨a_9, ea_9, hf⟩ := x_bind hf
        refine sh_getR i26_49 f26_22 ea_9 ?_
        refine ev_do i26_52 rfl ?_
        refine sh_aload (i' := 0) (n := 1) i26_53 (Or.inr ⟨rfl, by decide⟩) rfl ?_
        obtain ⟨a_10, ea_10, hf⟩ := x_bind hf
        refine sh_getR i26_54 f26_22 ea_10 ?_
        obtain ⟨v_11, ev_11, hf⟩ := x_bind hf
        refine sh_getI i26_57 f26_131 ev_11 ?_
        obtain ⟨_, eu_19, hf⟩ := x_bind hf
        obtain ⟨h_12, eh_12, hf⟩ := x_bind hf
        refine sh_inv (as := [.int v_11, .int 0, xrv a_9]) (z := (none, h_12)) i26_60 v26_134 (Or.inl ⟨by decide, rfl⟩) m54 rfl (Nat.le_of_ble_eq_true rfl) eu_19 (fn54_call (by omega) eh_12) ?_
        refine sh_aload (i' := 1) (n := 1) i26_63 (Or.inr ⟨rfl, by decide⟩) rfl ?_
        refine ev_do i26_64 rfl ?_
        obtain ⟨_, eu_18, hf⟩ := x_bind hf
        obtain ⟨h_13, eh_13, hf⟩ := x_bind hf
        refine sh_inv (as := [.int 32]) (z := (none, h_13)) i26_66 v26_138 (Or.inl ⟨by decide, rfl⟩) m52 rfl (Nat.le_of_ble_eq_true rfl) eu_18 (fn52_call (by omega) eh_13) ?_
        refine sh_aload (i' := 1) (n := 1) i26_69 (Or.inr ⟨rfl, by decide⟩) rfl ?_
        refine sh_aload (i' := 3) (n := 1) i26_70 (Or.inr ⟨rfl, by decide⟩) rfl ?_
        obtain ⟨_, eu_17, hf⟩ := x_bind hf
        obtain ⟨h_14, eh_14, hf⟩ := x_bind hf
        refine sh_inv (as := [xrv r_3.1]) (z := (none, h_14)) i26_71 v26_91 (Or.inl ⟨by decide, rfl⟩) m55 rfl (Nat.le_of_ble_eq_true rfl) eu_17 (fn55_call (by omega) eh_14) ?_
        refine sh_aload (i' := 1) (n := 1) i26_74 (Or.inr ⟨rfl, by decide⟩) rfl ?_
        obtain ⟨_, eu_16, hf⟩ := x_bind hf
        obtain ⟨h_15, eh_15, hf⟩ := x_bind hf
        refine sh_inv (as := []) (z := (none, h_15)) i26_75 v26_95 (Or.inl ⟨by decide, rfl⟩) m56 rfl (Nat.le_of_ble_eq_true rfl) eu_16 (fn56_call (by omega) eh_15) ?_
        exact j26_78_ok hd ih hf
def j26_11  (o0 : Option Nat) (o1 : Option Nat) (h : xH) : Option xH := l26_13 xFuel o0 o1 1 h
theorem j26_11_ok {xs : List Int32} {d : Nat} (hd : 5 ≤ d) {u2 : Value} {u3 : Value} {o0 : Option Nat} {o1 : Option Nat} {h : xH} {r : xH} (hu2 : u2.category = 1) (hu3 : u3.category = 1) (hf : j26_11 o0 o1 h = some r) : xEv (xTa xs) d 26 (11, [xrv o0, xrv o1, u2, u3], [], h) (none, r) := by
  unfold j26_11 at hf
  refine ev_do i26_11 rfl ?_
  refine sh_istore (i' := 2) (n := 1) i26_12 (Or.inr ⟨rfl, by decide⟩) (xokst_of (Nat.le_of_ble_eq_true rfl) (xrv_cat (o1))) ?_
  exact l26_13_ok hd xFuel hu3 hf
def fn26 (o0 : Option Nat) (o1 : Option Nat) (h : xH) : Option xH := (xgI h o1 5 4).bind fun v_1 => (if v_1 ≤ 0 then j26_11 o0 o1 h else (xcv h o1 5).bind fun _ => (fn56 o1 h).bind fun h_3 => j26_11 o0 o1 h_3)
theorem fn26_call {xs : List Int32} {d : Nat} (hd : 6 ≤ d) {o0 : Option Nat} {o1 : Option Nat} {h : xH} {r : xH} (hf : fn26 o0 o1 h = some r) : xCall (xTa xs) d 26 [xrv o0, xrv o1] h (none, r) := by
  obtain ⟨d, rfl⟩ : ∃ d2, d = d2 + 1 := ⟨d - 1, by omega⟩
  replace hd : 5 ≤ d := by omega
  refine call_of2 (fl := [xrv o0, xrv o1]) (Ls := [xrv o0, xrv o1, .float 0, .float 0]) m26 (by simp [xfl, xrv_cat, xc_i, xc_j, xc_a, xc_f]) (Nat.le_of_ble_eq_true rfl) rfl ?_
  unfold fn26 at hf
  refine sh_aload (i' := 1) (n := 1) i26_0 (Or.inr ⟨rfl, by decide⟩) rfl ?_
  obtain ⟨v_1, ev_1, hf⟩ := x_bind hf
  refine sh_getI i26_1 f26_117 ev_1 ?_
  refine ev_if (t := 11) i26_4 rfl (fun c_2 => ?_) (fun c_2 => ?_)
  · replace hf := x_pos (show v_1 ≤ 0 from c_2) hf
    exact j26_11_ok hd rfl rfl hf
  · replace hf := x_neg (show ¬ v_1 ≤ 0 from c_2) hf
    refine sh_aload (i' := 1) (n := 1) i26_7 (Or.inr ⟨rfl, by decide⟩) rfl ?_
    obtain ⟨_, eu_4, hf⟩ := x_bind hf
    obtain ⟨h_3, eh_3, hf⟩ := x_bind hf
    refine sh_inv (as := []) (z := (none, h_3)) i26_8 v26_95 (Or.inl ⟨by decide, rfl⟩) m56 rfl (Nat.le_of_ble_eq_true rfl) eu_4 (fn56_call (by omega) eh_3) ?_
    exact j26_11_ok hd rfl rfl hf
end
section
def j31_40  (o0 : Option Nat) (h : xH) : Option xH := some h
theorem j31_40_ok {xs : List Int32} {d : Nat} (hd : 1 ≤ d) {o0 : Option Nat} {h : xH} {r : xH} (hf : j31_40 o0 h = some r) : xEv (xTa xs) d 31 (40, [xrv o0], [], h) (none, r) := by
  unfold j31_40 at hf
  obtain rfl := Option.some.inj hf
  exact sh_vret i31_40 m31 rfl
def fn31 (o0 : Option Nat) (h : xH) : Option xH := (xgI h o0 3 4).bind fun v_1 => (xgR h o0 3 3).bind fun a_2 => (xaN h a_2).bind fun v_3 => (if v_3 ≤ (v_1 + 1) then j31_40 o0 h else (xgR h o0 3 3).bind fun a_5 => (xgI h o0 3 4).bind fun v_6 => (xgR h o0 3 2).bind fun a_7 => (xgI h a_7 9 1).bind fun v_8 => (xaS h 13 (fun x => x) a_5 v_6 v_8).bind fun h_9 => (xgI h_9 o0 3 4).bind fun v_10 => (xpF h_9 o0 3 4 .int (.int (v_10 + 1))).bind fun h_11 => j31_40 o0 h_11)
theorem fn31_call {xs : List Int32} {d : Nat} (hd : 2 ≤ d) {o0 : Option Nat} {h : xH} {r : xH} (hf : fn31 o0 h = some r) : xCall (xTa xs) d 31 [xrv o0] h (none, r) := by
  obtain ⟨d, rfl⟩ : ∃ d2, d = d2 + 1 := ⟨d - 1, by omega⟩
  replace hd : 1 ≤ d := by omega
  refine call_of2 (fl := [xrv o0]) (Ls := [xrv o0]) m31 (by simp [xfl, xrv_cat, xc_i, xc_j, xc_a, xc_f]) (Nat.le_of_ble_eq_true rfl) rfl ?_
  unfold fn31 at hf
  refine sh_aload (i' := 0) (n := 1) i31_0 (Or.inr ⟨rfl, by decide⟩) rfl ?_
  obtain ⟨v_1, ev_1, hf⟩ := x_bind hf
  refine sh_getI i31_1 f31_166 ev_1 ?_
  refine ev_do i31_4 rfl ?_
  refine ev_do i31_5 rfl ?_
  refine sh_aload (i' := 0) (n := 1) i31_6 (Or.inr ⟨rfl, by decide⟩) rfl ?_
  obtain ⟨a_2, ea_2, hf⟩ := x_bind hf
  refine sh_getR i31_7 f31_26 ea_2 ?_
  obtain ⟨v_3, ev_3, hf⟩ := x_bind hf
  refine sh_len i31_10 ev_3 ?_
  refine ev_icmp (t := 40) i31_11 rfl (fun c_4 => ?_) (fun c_4 => ?_)
  · replace hf := x_pos (show v_3 ≤ (v_1 + 1) from c_4) hf
    exact j31_40_ok hd hf
  · replace hf := x_neg (show ¬ v_3 ≤ (v_1 + 1) from c_4) hf
    refine sh_aload (i' := 0) (n := 1) i31_14 (Or.inr ⟨rfl, by decide⟩) rfl ?_
    obtain ⟨a_5, ea_5, hf⟩ := x_bind hf
    refine sh_getR i31_15 f31_26 ea_5 ?_
    refine sh_aload (i' := 0) (n := 1) i31_18 (Or.inr ⟨rfl, by decide⟩) rfl ?_
    obtain ⟨v_6, ev_6, hf⟩ := x_bind hf
    refine sh_getI i31_19 f31_166 ev_6 ?_
    refine sh_aload (i' := 0) (n := 1) i31_22 (Or.inr ⟨rfl, by decide⟩) rfl ?_
    obtain ⟨a_7, ea_7, hf⟩ := x_bind hf
    refine sh_getR i31_23 f31_22 ea_7 ?_
    obtain ⟨v_8, ev_8, hf⟩ := x_bind hf
    refine sh_getI i31_26 f31_131 ev_8 ?_
    obtain ⟨h_9, eh_9, hf⟩ := x_bind hf
    refine sh_ast (tg := 13) i31_29 (Or.inl ⟨rfl, rfl, rfl⟩) eh_9 ?_
    refine sh_aload (i' := 0) (n := 1) i31_30 (Or.inr ⟨rfl, by decide⟩) rfl ?_
    refine sh_dup i31_31 (xrv_cat (o0)) ?_
    obtain ⟨v_10, ev_10, hf⟩ := x_bind hf
    refine sh_getI i31_32 f31_166 ev_10 ?_
    refine ev_do i31_35 rfl ?_
    refine ev_do i31_36 rfl ?_
    obtain ⟨h_11, eh_11, hf⟩ := x_bind hf
    refine sh_put i31_37 f31_166 (by decide) rfl eh_11 ?_
    exact j31_40_ok hd hf
end
section
def j32_28  (o0 : Option Nat) (h : xH) : Option xH := some h
theorem j32_28_ok {xs : List Int32} {d : Nat} (hd : 1 ≤ d) {o0 : Option Nat} {h : xH} {r : xH} (hf : j32_28 o0 h = some r) : xEv (xTa xs) d 32 (28, [xrv o0], [], h) (none, r) := by
  unfold j32_28 at hf
  obtain rfl := Option.some.inj hf
  exact sh_vret i32_28 m32 rfl
def fn32 (o0 : Option Nat) (h : xH) : Option xH := (xgI h o0 3 4).bind fun v_1 => (xgR h o0 3 3).bind fun a_2 => (xaN h a_2).bind fun v_3 => (if v_3 ≤ v_1 then j32_28 o0 h else (xgR h o0 3 3).bind fun a_5 => (xgI h o0 3 4).bind fun v_6 => (xgR h o0 3 2).bind fun a_7 => (xgI h a_7 9 1).bind fun v_8 => (xaS h 13 (fun x => x) a_5 v_6 v_8).bind fun h_9 => j32_28 o0 h_9)
theorem fn32_call {xs : List Int32} {d : Nat} (hd : 2 ≤ d) {o0 : Option Nat} {h : xH} {r : xH} (hf : fn32 o0 h = some r) : xCall (xTa xs) d 32 [xrv o0] h (none, r) := by
  obtain ⟨d, rfl⟩ : ∃ d2, d = d2 + 1 := ⟨d - 1, by omega⟩
  replace hd : 1 ≤ d := by omega
  refine call_of2 (fl := [xrv o0]) (Ls := [xrv o0]) m32 (by simp [xfl, xrv_cat, xc_i, xc_j, xc_a, xc_f]) (Nat.le_of_ble_eq_true rfl) rfl ?_
  unfold fn32 at hf
  refine sh_aload (i' := 0) (n := 1) i32_0 (Or.inr ⟨rfl, by decide⟩) rfl ?_
  obtain ⟨v_1, ev_1, hf⟩ := x_bind hf
  refine sh_getI i32_1 f32_166 ev_1 ?_
  refine sh_aload (i' := 0) (n := 1) i32_4 (Or.inr ⟨rfl, by decide⟩) rfl ?_
  obtain ⟨a_2, ea_2, hf⟩ := x_bind hf
  refine sh_getR i32_5 f32_26 ea_2 ?_
  obtain ⟨v_3, ev_3, hf⟩ := x_bind hf
  refine sh_len i32_8 ev_3 ?_
  refine ev_icmp (t := 28) i32_9 rfl (fun c_4 => ?_) (fun c_4 => ?_)
  · replace hf := x_pos (show v_3 ≤ v_1 from c_4) hf
    exact j32_28_ok hd hf
  · replace hf := x_neg (show ¬ v_3 ≤ v_1 from c_4) hf
    refine sh_aload (i' := 0) (n := 1) i32_12 (Or.inr ⟨rfl, by decide⟩) rfl ?_
    obtain ⟨a_5, ea_5, hf⟩ := x_bind hf
    refine sh_getR i32_13 f32_26 ea_5 ?_
    refine sh_aload (i' := 0) (n := 1) i32_16 (Or.inr ⟨rfl, by decide⟩) rfl ?_
    obtain ⟨v_6, ev_6, hf⟩ := x_bind hf
    refine sh_getI i32_17 f32_166 ev_6 ?_
    refine sh_aload (i' := 0) (n := 1) i32_20 (Or.inr ⟨rfl, by decide⟩) rfl ?_
    obtain ⟨a_7, ea_7, hf⟩ := x_bind hf
    refine sh_getR i32_21 f32_22 ea_7 ?_
    obtain ⟨v_8, ev_8, hf⟩ := x_bind hf
    refine sh_getI i32_24 f32_131 ev_8 ?_
    obtain ⟨h_9, eh_9, hf⟩ := x_bind hf
    refine sh_ast (tg := 13) i32_27 (Or.inl ⟨rfl, rfl, rfl⟩) eh_9 ?_
    exact j32_28_ok hd hf
end
section
def j58_46  (o0 : Option Nat) (o1 : Option Nat) (x2 : Int32) (h : xH) : Option (Int32 × xH) := some (0, h)
theorem j58_46_ok {xs : List Int32} {d : Nat} (hd : 1 ≤ d) {o0 : Option Nat} {o1 : Option Nat} {x2 : Int32} {h : xH} {r : (Int32 × xH)} (hf : j58_46 o0 o1 x2 h = some r) : xEv (xTa xs) d 58 (46, [xrv o0, xrv o1, .int x2], [], h) (some (.int r.1), r.2) := by
  unfold j58_46 at hf
  refine ev_do i58_46 rfl ?_
  obtain rfl := Option.some.inj hf
  exact sh_iret i58_47 m58 rfl rfl
def l58_2  : Nat → Option Nat → Option Nat → Int32 → xH → Option (Int32 × xH)
  | 0 => fun _ _ _ _ => none
  | n + 1 => fun o0 o1 x2 h => (xgI h o0 5 4).bind fun v_1 => (if v_1 ≤ x2 then (if o1 = none then j58_46 o0 o1 x2 h else (xgI h o0 5 4).bind fun v_4 => (xgR h o0 5 2).bind fun a_5 => (xaN h a_5).bind fun v_6 => (if v_4 < v_6 then (xgR h o0 5 2).bind fun a_8 => (xgI h o0 5 4).bind fun v_9 => (xaT h a_8 v_9 o1).bind fun h_10 => (xgI h_10 o0 5 4).bind fun v_11 => (xpF h_10 o0 5 4 .int (.int (v_11 + 1))).bind fun h_12 => (xgI h_12 o0 5 4).bind fun v_13 => some (v_13, h_12) else j58_46 o0 o1 x2 h)) else (xgR h o0 5 2).bind fun a_14 => (xaR h a_14 x2).bind fun a_15 => (if a_15 = o1 then some (x2 + 1, h) else l58_2 n o0 o1 (x2 + 1) h))
theorem l58_2_ok {xs : List Int32} {d : Nat} (hd : 1 ≤ d) : ∀ (n : Nat) {o0 : Option Nat} {o1 : Option Nat} {x2 : Int32} {h : xH} {r : (Int32 × xH)}, l58_2 n o0 o1 x2 h = some r → xEv (xTa xs) d 58 (2, [xrv o0, xrv o1, .int x2], [], h) (some (.int r.1), r.2) := by
  intro n
  induction n with
  | zero => intros; rename_i hf; cases hf
  | succ n ih =>
    intro o0 o1 x2 h r hf
    replace hf : ((xgI h o0 5 4).bind fun v_1 => (if v_1 ≤ x2 then (if o1 = none then j58_46 o0 o1 x2 h else (xgI h o0 5 4).bind fun v_4 => (xgR h o0 5 2).bind fun a_5 => (xaN h a_5).bind fun v_6 => (if v_4 < v_6 then (xgR h o0 5 2).bind fun a_8 => (xgI h o0 5 4).bind fun v_9 => (xaT h a_8 v_9 o1).bind fun h_10 => (xgI h_10 o0 5 4).bind fun v_11 => (xpF h_10 o0 5 4 .int (.int (v_11 + 1))).bind fun h_12 => (xgI h_12 o0 5 4).bind fun v_13 => some (v_13, h_12) else j58_46 o0 o1 x2 h)) else (xgR h o0 5 2).bind fun a_14 => (xaR h a_14 x2).bind fun a_15 => (if a_15 = o1 then some (x2 + 1, h) else l58_2 n o0 o1 (x2 + 1) h))) = some r := hf
    refine ev_do i58_2 rfl ?_
    refine sh_aload (i' := 0) (n := 1) i58_3 (Or.inr ⟨rfl, by decide⟩) rfl ?_
    obtain ⟨v_1, ev_1, hf⟩ := x_bind hf
    refine sh_getI i58_4 f58_37 ev_1 ?_
    refine ev_icmp (t := 30) i58_7 rfl (fun c_2 => ?_) (fun c_2 => ?_)
    · replace hf := x_pos (show v_1 ≤ x2 from c_2) hf
      refine sh_aload (i' := 1) (n := 1) i58_30 (Or.inr ⟨rfl, by decide⟩) rfl ?_
      refine sh_null (t := 46) i58_31 rfl (fun c_3 => ?_) (fun c_3 => ?_)
      · replace hf := x_pos c_3 hf
        exact j58_46_ok hd hf
      · replace hf := x_neg c_3 hf
        refine sh_aload (i' := 0) (n := 1) i58_34 (Or.inr ⟨rfl, by decide⟩) rfl ?_
        obtain ⟨v_4, ev_4, hf⟩ := x_bind hf
        refine sh_getI i58_35 f58_37 ev_4 ?_
        refine sh_aload (i' := 0) (n := 1) i58_38 (Or.inr ⟨rfl, by decide⟩) rfl ?_
        obtain ⟨a_5, ea_5, hf⟩ := x_bind hf
        refine sh_getR i58_39 f58_26 ea_5 ?_
        obtain ⟨v_6, ev_6, hf⟩ := x_bind hf
        refine sh_len i58_42 ev_6 ?_
        refine ev_icmp (t := 48) i58_43 rfl (fun c_7 => ?_) (fun c_7 => ?_)
        · replace hf := x_pos (show v_4 < v_6 from c_7) hf
          refine sh_aload (i' := 0) (n := 1) i58_48 (Or.inr ⟨rfl, by decide⟩) rfl ?_
          obtain ⟨a_8, ea_8, hf⟩ := x_bind hf
          refine sh_getR i58_49 f58_26 ea_8 ?_
          refine sh_aload (i' := 0) (n := 1) i58_52 (Or.inr ⟨rfl, by decide⟩) rfl ?_
          obtain ⟨v_9, ev_9, hf⟩ := x_bind hf
          refine sh_getI i58_53 f58_37 ev_9 ?_
          refine sh_aload (i' := 1) (n := 1) i58_56 (Or.inr ⟨rfl, by decide⟩) rfl ?_
          obtain ⟨h_10, eh_10, hf⟩ := x_bind hf
          refine sh_asT i58_57 eh_10 ?_
          refine sh_aload (i' := 0) (n := 1) i58_58 (Or.inr ⟨rfl, by decide⟩) rfl ?_
          refine sh_dup i58_59 (xrv_cat (o0)) ?_
          obtain ⟨v_11, ev_11, hf⟩ := x_bind hf
          refine sh_getI i58_60 f58_37 ev_11 ?_
          refine ev_do i58_63 rfl ?_
          refine ev_do i58_64 rfl ?_
          obtain ⟨h_12, eh_12, hf⟩ := x_bind hf
          refine sh_put i58_65 f58_37 (by decide) rfl eh_12 ?_
          refine sh_aload (i' := 0) (n := 1) i58_68 (Or.inr ⟨rfl, by decide⟩) rfl ?_
          obtain ⟨v_13, ev_13, hf⟩ := x_bind hf
          refine sh_getI i58_69 f58_37 ev_13 ?_
          obtain rfl := Option.some.inj hf
          exact sh_iret i58_72 m58 rfl rfl
        · replace hf := x_neg (show ¬ v_4 < v_6 from c_7) hf
          exact j58_46_ok hd hf
    · replace hf := x_neg (show ¬ v_1 ≤ x2 from c_2) hf
      refine sh_aload (i' := 0) (n := 1) i58_10 (Or.inr ⟨rfl, by decide⟩) rfl ?_
      obtain ⟨a_14, ea_14, hf⟩ := x_bind hf
      refine sh_getR i58_11 f58_26 ea_14 ?_
      refine ev_do i58_14 rfl ?_
      obtain ⟨a_15, ea_15, hf⟩ := x_bind hf
      refine sh_aldR i58_15 ea_15 ?_
      refine sh_aload (i' := 1) (n := 1) i58_16 (Or.inr ⟨rfl, by decide⟩) rfl ?_
      refine sh_acmp (ne := true) (t := 24) i58_17 rfl (fun c_16 => ?_) (fun c_16 => ?_)
      · replace hf := x_pos c_16 hf
        refine ev_do i58_20 rfl ?_
        refine ev_do i58_21 rfl ?_
        refine ev_do i58_22 rfl ?_
        obtain rfl := Option.some.inj hf
        exact sh_iret i58_23 m58 rfl rfl
      · replace hf := x_neg c_16 hf
        refine sh_inc (i' := 2) i58_24 rfl (xokst_of (Nat.le_of_ble_eq_true rfl) (xrv_cat (o1))) rfl ?_
        refine sh_goto (t := 2) i58_27 rfl ?_
        exact ih hf
def fn58 (o0 : Option Nat) (o1 : Option Nat) (h : xH) : Option (Int32 × xH) := l58_2 xFuel o0 o1 0 h
theorem fn58_call {xs : List Int32} {d : Nat} (hd : 2 ≤ d) {o0 : Option Nat} {o1 : Option Nat} {h : xH} {r : (Int32 × xH)} (hf : fn58 o0 o1 h = some r) : xCall (xTa xs) d 58 [xrv o0, xrv o1] h (some (.int r.1), r.2) := by
  obtain ⟨d, rfl⟩ : ∃ d2, d = d2 + 1 := ⟨d - 1, by omega⟩
  replace hd : 1 ≤ d := by omega
  refine call_of2 (fl := [xrv o0, xrv o1]) (Ls := [xrv o0, xrv o1, .float 0]) m58 (by simp [xfl, xrv_cat, xc_i, xc_j, xc_a, xc_f]) (Nat.le_of_ble_eq_true rfl) rfl ?_
  unfold fn58 at hf
  refine ev_do i58_0 rfl ?_
  refine sh_istore (i' := 2) (n := 1) i58_1 (Or.inr ⟨rfl, by decide⟩) (xokst_of (Nat.le_of_ble_eq_true rfl) (xrv_cat (o1))) ?_
  exact l58_2_ok hd xFuel hf
end
section
def l99_2  : Nat → Option Nat → Nat → Int32 → xH → Option xH
  | 0 => fun _ _ _ _ => none
  | n + 1 => fun o0 q1 x2 h => (xqL q1).bind fun v_1 => (if v_1 ≤ x2 then some h else (xqC q1 x2).bind fun v_3 => (xcv h o0 9).bind fun _ => (fn97 o0 v_3 h).bind fun r_4 => l99_2 n o0 q1 (x2 + 1) r_4.2)
theorem l99_2_ok {xs : List Int32} {d : Nat} (hd : 5 ≤ d) : ∀ (n : Nat) {o0 : Option Nat} {q1 : Nat} {x2 : Int32} {h : xH} {r : xH}, l99_2 n o0 q1 x2 h = some r → xEv (xTa xs) d 99 (2, [xrv o0, .retAddr (q1 + 1), .int x2], [], h) (none, r) := by
  intro n
  induction n with
  | zero => intros; rename_i hf; cases hf
  | succ n ih =>
    intro o0 q1 x2 h r hf
    replace hf : ((xqL q1).bind fun v_1 => (if v_1 ≤ x2 then some h else (xqC q1 x2).bind fun v_3 => (xcv h o0 9).bind fun _ => (fn97 o0 v_3 h).bind fun r_4 => l99_2 n o0 q1 (x2 + 1) r_4.2)) = some r := hf
    refine ev_do i99_2 rfl ?_
    refine ev_do i99_3 rfl ?_
    obtain ⟨v_1, ev_1, hf⟩ := x_bind hf
    refine sh_tlen i99_4 v99_29 (Nat.le_of_ble_eq_true rfl) (by omega) ev_1 ?_
    refine ev_icmp (t := 26) i99_7 rfl (fun c_2 => ?_) (fun c_2 => ?_)
    · replace hf := x_pos (show v_1 ≤ x2 from c_2) hf
      obtain rfl := Option.some.inj hf
      exact sh_vret i99_26 m99 rfl
    · replace hf := x_neg (show ¬ v_1 ≤ x2 from c_2) hf
      refine sh_aload (i' := 0) (n := 1) i99_10 (Or.inr ⟨rfl, by decide⟩) rfl ?_
      refine ev_do i99_11 rfl ?_
      refine ev_do i99_12 rfl ?_
      obtain ⟨v_3, ev_3, hf⟩ := x_bind hf
      refine sh_tchr i99_13 v99_35 (by simp [xcat, xrv_cat, xc_i, xc_j, xc_a, xc_f]) (by omega) ev_3 ?_
      obtain ⟨_, eu_5, hf⟩ := x_bind hf
      obtain ⟨r_4, er_4, hf⟩ := x_bind hf
      refine sh_inv (as := [.int v_3]) (z := (some (.int r_4.1), r_4.2)) i99_16 v99_25 (Or.inl ⟨by decide, rfl⟩) m97 rfl (Nat.le_of_ble_eq_true rfl) eu_5 (fn97_call (by omega) er_4) ?_
      refine sh_pop i99_19 rfl ?_
      refine sh_inc (i' := 2) i99_20 rfl (xokst_of (Nat.le_of_ble_eq_true rfl) rfl) rfl ?_
      refine sh_goto (t := 2) i99_23 rfl ?_
      exact ih hf
def fn99 (o0 : Option Nat) (q1 : Nat) (h : xH) : Option xH := l99_2 xFuel o0 q1 0 h
theorem fn99_call {xs : List Int32} {d : Nat} (hd : 6 ≤ d) {o0 : Option Nat} {q1 : Nat} {h : xH} {r : xH} (hf : fn99 o0 q1 h = some r) : xCall (xTa xs) d 99 [xrv o0, .retAddr (q1 + 1)] h (none, r) := by
  obtain ⟨d, rfl⟩ : ∃ d2, d = d2 + 1 := ⟨d - 1, by omega⟩
  replace hd : 5 ≤ d := by omega
  refine call_of2 (fl := [xrv o0, .retAddr (q1 + 1)]) (Ls := [xrv o0, .retAddr (q1 + 1), .float 0]) m99 (by simp [xfl, xrv_cat, xc_i, xc_j, xc_a, xc_f]) (Nat.le_of_ble_eq_true rfl) rfl ?_
  unfold fn99 at hf
  refine ev_do i99_0 rfl ?_
  refine sh_istore (i' := 2) (n := 1) i99_1 (Or.inr ⟨rfl, by decide⟩) (xokst_of (Nat.le_of_ble_eq_true rfl) rfl) ?_
  exact l99_2_ok hd xFuel hf
end
section
def fn139 (x0 : Int32) (h : xH) : Option (Nat × xH) := (if x0 = 2 then some (3, h) else (if x0 = 3 then some (4, h) else (if x0 = 4 then some (5, h) else (if x0 = 5 then some (6, h) else (if x0 = 6 then some (7, h) else some (8, h))))))
theorem fn139_call {xs : List Int32} {d : Nat} (hd : 2 ≤ d) {x0 : Int32} {h : xH} {r : (Nat × xH)} (hf : fn139 x0 h = some r) : xCall (xTa xs) d 139 [.int x0] h (some (.retAddr (r.1 + 1)), r.2) := by
  obtain ⟨d, rfl⟩ : ∃ d2, d = d2 + 1 := ⟨d - 1, by omega⟩
  replace hd : 1 ≤ d := by omega
  refine call_of2 (fl := [.int x0]) (Ls := [.int x0]) m139 (by simp [xfl, xrv_cat, xc_i, xc_j, xc_a, xc_f]) (Nat.le_of_ble_eq_true rfl) rfl ?_
  unfold fn139 at hf
  refine ev_do i139_0 rfl ?_
  by_cases c_1 : x0 = 2
  · replace hf := x_pos c_1 hf
    refine sh_tswC (c := 2) (t := 36) i139_1 (show (x0).toInt = 2 by rw [c_1]; rfl) (by decide) (by decide) rfl rfl ?_
    refine ev_ldc (k := 3) i139_36 (Or.inr ⟨rfl, rfl⟩) s139_296 (by decide) ?_
    obtain rfl := Option.some.inj hf
    exact sh_sret i139_39 m139 rfl
  · replace hf := x_neg c_1 hf
    by_cases c_2 : x0 = 3
    · replace hf := x_pos c_2 hf
      refine sh_tswC (c := 3) (t := 40) i139_1 (show (x0).toInt = 3 by rw [c_2]; rfl) (by decide) (by decide) rfl rfl ?_
      refine ev_ldc (k := 4) i139_40 (Or.inr ⟨rfl, rfl⟩) s139_298 (by decide) ?_
      obtain rfl := Option.some.inj hf
      exact sh_sret i139_43 m139 rfl
    · replace hf := x_neg c_2 hf
      by_cases c_3 : x0 = 4
      · replace hf := x_pos c_3 hf
        refine sh_tswC (c := 4) (t := 44) i139_1 (show (x0).toInt = 4 by rw [c_3]; rfl) (by decide) (by decide) rfl rfl ?_
        refine ev_ldc (k := 5) i139_44 (Or.inr ⟨rfl, rfl⟩) s139_300 (by decide) ?_
        obtain rfl := Option.some.inj hf
        exact sh_sret i139_47 m139 rfl
      · replace hf := x_neg c_3 hf
        by_cases c_4 : x0 = 5
        · replace hf := x_pos c_4 hf
          refine sh_tswC (c := 5) (t := 48) i139_1 (show (x0).toInt = 5 by rw [c_4]; rfl) (by decide) (by decide) rfl rfl ?_
          refine ev_ldc (k := 6) i139_48 (Or.inr ⟨rfl, rfl⟩) s139_302 (by decide) ?_
          obtain rfl := Option.some.inj hf
          exact sh_sret i139_51 m139 rfl
        · replace hf := x_neg c_4 hf
          by_cases c_5 : x0 = 6
          · replace hf := x_pos c_5 hf
            refine sh_tswC (c := 6) (t := 52) i139_1 (show (x0).toInt = 6 by rw [c_5]; rfl) (by decide) (by decide) rfl rfl ?_
            refine ev_ldc (k := 7) i139_52 (Or.inr ⟨rfl, rfl⟩) s139_304 (by decide) ?_
            obtain rfl := Option.some.inj hf
            exact sh_sret i139_55 m139 rfl
          · replace hf := x_neg c_5 hf
            have nc_1 : (x0).toInt ≠ 2 := fun h9 => c_1 (Int32.toInt_inj.mp h9)
            have nc_2 : (x0).toInt ≠ 3 := fun h9 => c_2 (Int32.toInt_inj.mp h9)
            have nc_3 : (x0).toInt ≠ 4 := fun h9 => c_3 (Int32.toInt_inj.mp h9)
            have nc_4 : (x0).toInt ≠ 5 := fun h9 => c_4 (Int32.toInt_inj.mp h9)
            have nc_5 : (x0).toInt ≠ 6 := fun h9 => c_5 (Int32.toInt_inj.mp h9)
            refine sh_tswD (t := 56) i139_1 (show (x0).toInt < 2 ∨ 6 < (x0).toInt by omega) rfl ?_
            refine ev_ldc (k := 8) i139_56 (Or.inr ⟨rfl, rfl⟩) s139_306 (by decide) ?_
            obtain rfl := Option.some.inj hf
            exact sh_sret i139_59 m139 rfl
end
section
def j30_74  (o0 : Option Nat) (o1 : Option Nat) (o2 : Option Nat) (o3 : Option Nat) (h : xH) : Option xH := (xcv h o0 3).bind fun _ => (fn32 o0 h).bind fun h_1 => some h_1
theorem j30_74_ok {xs : List Int32} {d : Nat} (hd : 6 ≤ d) {o0 : Option Nat} {o1 : Option Nat} {o2 : Option Nat} {o3 : Option Nat} {h : xH} {r : xH} (hf : j30_74 o0 o1 o2 o3 h = some r) : xEv (xTa xs) d 30 (74, [xrv o0, xrv o1, xrv o2, xrv o3], [], h) (none, r) := by
  unfold j30_74 at hf
  refine sh_aload (i' := 0) (n := 1) i30_74 (Or.inr ⟨rfl, by decide⟩) rfl ?_
  obtain ⟨_, eu_2, hf⟩ := x_bind hf
  obtain ⟨h_1, eh_1, hf⟩ := x_bind hf
  refine sh_inv (as := []) (z := (none, h_1)) i30_75 v30_215 (Or.inl ⟨by decide, rfl⟩) m32 rfl (Nat.le_of_ble_eq_true rfl) eu_2 (fn32_call (by omega) eh_1) ?_
  obtain rfl := Option.some.inj hf
  exact sh_vret i30_78 m30 rfl
def j30_52  (o0 : Option Nat) (o1 : Option Nat) (o2 : Option Nat) (o3 : Option Nat) (h : xH) : Option xH := (xcv h o2 0).bind fun _ => (fn1 o2 h).bind fun r_1 => (if r_1.1 = 0 then j30_74 o0 o1 o2 o3 r_1.2 else (xgR r_1.2 o0 3 2).bind fun a_3 => (xgR r_1.2 o2 0 9).bind fun a_4 => (xcv r_1.2 o1 5).bind fun _ => (fn58 o1 a_4 r_1.2).bind fun r_5 => (fn27 a_3 r_5.1 r_5.2).bind fun h_6 => j30_74 o0 o1 o2 o3 h_6)
theorem j30_52_ok {xs : List Int32} {d : Nat} (hd : 6 ≤ d) {o0 : Option Nat} {o1 : Option Nat} {o2 : Option Nat} {o3 : Option Nat} {h : xH} {r : xH} (hf : j30_52 o0 o1 o2 o3 h = some r) : xEv (xTa xs) d 30 (52, [xrv o0, xrv o1, xrv o2, xrv o3], [], h) (none, r) := by
  unfold j30_52 at hf
  refine sh_aload (i' := 2) (n := 1) i30_52 (Or.inr ⟨rfl, by decide⟩) rfl ?_
  obtain ⟨_, eu_8, hf⟩ := x_bind hf
  obtain ⟨r_1, er_1, hf⟩ := x_bind hf
  refine sh_inv (as := []) (z := (some (.int r_1.1), r_1.2)) i30_53 v30_232 (Or.inl ⟨by decide, rfl⟩) m1 rfl (Nat.le_of_ble_eq_true rfl) eu_8 (fn1_call (by omega) er_1) ?_
  refine ev_if (t := 74) i30_56 rfl (fun c_2 => ?_) (fun c_2 => ?_)
  · replace hf := x_pos (show r_1.1 = 0 from c_2) hf
    exact j30_74_ok hd hf
  · replace hf := x_neg (show ¬ r_1.1 = 0 from c_2) hf
    refine sh_aload (i' := 0) (n := 1) i30_59 (Or.inr ⟨rfl, by decide⟩) rfl ?_
    obtain ⟨a_3, ea_3, hf⟩ := x_bind hf
    refine sh_getR i30_60 f30_22 ea_3 ?_
    refine sh_aload (i' := 1) (n := 1) i30_63 (Or.inr ⟨rfl, by decide⟩) rfl ?_
    refine sh_aload (i' := 2) (n := 1) i30_64 (Or.inr ⟨rfl, by decide⟩) rfl ?_
    obtain ⟨a_4, ea_4, hf⟩ := x_bind hf
    refine sh_getR i30_65 f30_236 ea_4 ?_
    obtain ⟨_, eu_7, hf⟩ := x_bind hf
    obtain ⟨r_5, er_5, hf⟩ := x_bind hf
    refine sh_inv (as := [xrv a_4]) (z := (some (.int r_5.1), r_5.2)) i30_68 v30_211 (Or.inl ⟨by decide, rfl⟩) m58 rfl (by simp [xcat, xrv_cat, xc_i, xc_j, xc_a, xc_f]) eu_7 (fn58_call (by omega) er_5) ?_
    obtain ⟨h_6, eh_6, hf⟩ := x_bind hf
    refine ev_sta (as := [.int r_5.1, xrv a_3]) (z := (none, h_6)) i30_71 v30_127 (Or.inl rfl) m27 rfl (Nat.le_of_ble_eq_true rfl) (fn27_call (by omega) eh_6) ?_
    exact j30_74_ok hd hf
def fn30 (o0 : Option Nat) (o1 : Option Nat) (o2 : Option Nat) (o3 : Option Nat) (h : xH) : Option xH := (xcv h o0 3).bind fun _ => (fn31 o0 h).bind fun h_1 => (xgR h_1 o0 3 2).bind fun a_2 => (xgI h_1 o2 0 1).bind fun v_3 => (fn139 v_3 h_1).bind fun r_4 => (xcv r_4.2 a_2 9).bind fun _ => (fn99 a_2 r_4.1 r_4.2).bind fun h_5 => (xgI h_5 o2 0 1).bind fun v_6 => (if v_6 = 3 then j30_52 o0 o1 o2 o3 h_5 else (xgR h_5 o0 3 2).bind fun a_8 => (xcv h_5 a_8 9).bind fun _ => (fn97 a_8 32 h_5).bind fun r_9 => (xgR r_9.2 o0 3 2).bind fun a_10 => (xgI r_9.2 o2 0 6).bind fun v_11 => (xgI r_9.2 o2 0 7).bind fun v_12 => (xcv r_9.2 a_10 9).bind fun _ => (fn100 a_10 o3 v_11 v_12 r_9.2).bind fun h_13 => j30_52 o0 o1 o2 o3 h_13)
theorem fn30_call {xs : List Int32} {d : Nat} (hd : 7 ≤ d) {o0 : Option Nat} {o1 : Option Nat} {o2 : Option Nat} {o3 : Option Nat} {h : xH} {r : xH} (hf : fn30 o0 o1 o2 o3 h = some r) : xCall (xTa xs) d 30 [xrv o0, xrv o1, xrv o2, xrv o3] h (none, r) := by
  obtain ⟨d, rfl⟩ : ∃ d2, d = d2 + 1 := ⟨d - 1, by omega⟩
  replace hd : 6 ≤ d := by omega
  refine call_of2 (fl := [xrv o0, xrv o1, xrv o2, xrv o3]) (Ls := [xrv o0, xrv o1, xrv o2, xrv o3]) m30 (by simp [xfl, xrv_cat, xc_i, xc_j, xc_a, xc_f]) (Nat.le_of_ble_eq_true rfl) rfl ?_
  unfold fn30 at hf
  refine sh_aload (i' := 0) (n := 1) i30_0 (Or.inr ⟨rfl, by decide⟩) rfl ?_
  obtain ⟨_, eu_17, hf⟩ := x_bind hf
  obtain ⟨h_1, eh_1, hf⟩ := x_bind hf
  refine sh_inv (as := []) (z := (none, h_1)) i30_1 v30_194 (Or.inl ⟨by decide, rfl⟩) m31 rfl (Nat.le_of_ble_eq_true rfl) eu_17 (fn31_call (by omega) eh_1) ?_
  refine sh_aload (i' := 0) (n := 1) i30_4 (Or.inr ⟨rfl, by decide⟩) rfl ?_
  obtain ⟨a_2, ea_2, hf⟩ := x_bind hf
  refine sh_getR i30_5 f30_22 ea_2 ?_
  refine sh_aload (i' := 2) (n := 1) i30_8 (Or.inr ⟨rfl, by decide⟩) rfl ?_
  obtain ⟨v_3, ev_3, hf⟩ := x_bind hf
  refine sh_getI i30_9 f30_55 ev_3 ?_
  obtain ⟨r_4, er_4, hf⟩ := x_bind hf
  refine ev_sta (as := [.int v_3]) (z := (some (.retAddr (r_4.1 + 1)), r_4.2)) i30_12 v30_218 (Or.inr rfl) m139 rfl (by simp [xcat, xrv_cat, xc_i, xc_j, xc_a, xc_f]) (fn139_call (by omega) er_4) ?_
  obtain ⟨_, eu_16, hf⟩ := x_bind hf
  obtain ⟨h_5, eh_5, hf⟩ := x_bind hf
  refine sh_inv (as := [.retAddr (r_4.1 + 1)]) (z := (none, h_5)) i30_15 v30_222 (Or.inl ⟨by decide, rfl⟩) m99 rfl (Nat.le_of_ble_eq_true rfl) eu_16 (fn99_call (by omega) eh_5) ?_
  refine sh_aload (i' := 2) (n := 1) i30_18 (Or.inr ⟨rfl, by decide⟩) rfl ?_
  obtain ⟨v_6, ev_6, hf⟩ := x_bind hf
  refine sh_getI i30_19 f30_55 ev_6 ?_
  refine ev_do i30_22 rfl ?_
  refine ev_icmp (t := 52) i30_23 rfl (fun c_7 => ?_) (fun c_7 => ?_)
  · replace hf := x_pos (show v_6 = 3 from c_7) hf
    exact j30_52_ok hd hf
  · replace hf := x_neg (show ¬ v_6 = 3 from c_7) hf
    refine sh_aload (i' := 0) (n := 1) i30_26 (Or.inr ⟨rfl, by decide⟩) rfl ?_
    obtain ⟨a_8, ea_8, hf⟩ := x_bind hf
    refine sh_getR i30_27 f30_22 ea_8 ?_
    refine ev_do i30_30 rfl ?_
    obtain ⟨_, eu_15, hf⟩ := x_bind hf
    obtain ⟨r_9, er_9, hf⟩ := x_bind hf
    refine sh_inv (as := [.int 32]) (z := (some (.int r_9.1), r_9.2)) i30_32 v30_141 (Or.inl ⟨by decide, rfl⟩) m97 rfl (Nat.le_of_ble_eq_true rfl) eu_15 (fn97_call (by omega) er_9) ?_
    refine sh_pop i30_35 rfl ?_
    refine sh_aload (i' := 0) (n := 1) i30_36 (Or.inr ⟨rfl, by decide⟩) rfl ?_
    obtain ⟨a_10, ea_10, hf⟩ := x_bind hf
    refine sh_getR i30_37 f30_22 ea_10 ?_
    refine sh_aload (i' := 3) (n := 1) i30_40 (Or.inr ⟨rfl, by decide⟩) rfl ?_
    refine sh_aload (i' := 2) (n := 1) i30_41 (Or.inr ⟨rfl, by decide⟩) rfl ?_
    obtain ⟨v_11, ev_11, hf⟩ := x_bind hf
    refine sh_getI i30_42 f30_226 ev_11 ?_
    refine sh_aload (i' := 2) (n := 1) i30_45 (Or.inr ⟨rfl, by decide⟩) rfl ?_
    obtain ⟨v_12, ev_12, hf⟩ := x_bind hf
    refine sh_getI i30_46 f30_229 ev_12 ?_
    obtain ⟨_, eu_14, hf⟩ := x_bind hf
    obtain ⟨h_13, eh_13, hf⟩ := x_bind hf
    refine sh_inv (as := [.int v_12, .int v_11, xrv o3]) (z := (none, h_13)) i30_49 v30_203 (Or.inl ⟨by decide, rfl⟩) m100 rfl (Nat.le_of_ble_eq_true rfl) eu_14 (fn100_call (by omega) eh_13) ?_
    exact j30_52_ok hd hf
end
section
def j29_132 (k46 : Option Nat → Option Nat → Option Nat → Option Nat → Int32 → xH → Option xH) (o0 : Option Nat) (o1 : Option Nat) (o2 : Option Nat) (o3 : Option Nat) (x4 : Int32) (o5 : Option Nat) (h : xH) : Option xH := (xcv h o0 3).bind fun _ => (fn32 o0 h).bind fun h_1 => k46 o0 o1 o2 o3 (x4 + 1) h_1
theorem j29_132_ok {xs : List Int32} {d : Nat} (hd : 7 ≤ d) {k46 : Option Nat → Option Nat → Option Nat → Option Nat → Int32 → xH → Option xH} (hk46 : ∀ {u5 : Value} {o0 : Option Nat} {o1 : Option Nat} {o2 : Option Nat} {o3 : Option Nat} {x4 : Int32} {h : xH} {r : xH}, u5.category = 1 → k46 o0 o1 o2 o3 x4 h = some r → xEv (xTa xs) d 29 (46, [xrv o0, xrv o1, xrv o2, xrv o3, .int x4, u5], [], h) (none, r)) {o0 : Option Nat} {o1 : Option Nat} {o2 : Option Nat} {o3 : Option Nat} {x4 : Int32} {o5 : Option Nat} {h : xH} {r : xH} (hf : j29_132 k46 o0 o1 o2 o3 x4 o5 h = some r) : xEv (xTa xs) d 29 (132, [xrv o0, xrv o1, xrv o2, xrv o3, .int x4, xrv o5], [], h) (none, r) := by
  unfold j29_132 at hf
  refine sh_aload (i' := 0) (n := 1) i29_132 (Or.inr ⟨rfl, by decide⟩) rfl ?_
  obtain ⟨_, eu_2, hf⟩ := x_bind hf
  obtain ⟨h_1, eh_1, hf⟩ := x_bind hf
  refine sh_inv (as := []) (z := (none, h_1)) i29_133 v29_215 (Or.inl ⟨by decide, rfl⟩) m32 rfl (Nat.le_of_ble_eq_true rfl) eu_2 (fn32_call (by omega) eh_1) ?_
  refine sh_inc (i' := 4) i29_136 rfl (xokst_of (Nat.le_of_ble_eq_true rfl) (xrv_cat (o3))) rfl ?_
  refine sh_goto (t := 46) i29_139 rfl ?_
  exact hk46 (xrv_cat (o5)) hf
def j29_86 (k46 : Option Nat → Option Nat → Option Nat → Option Nat → Int32 → xH → Option xH) (o0 : Option Nat) (o1 : Option Nat) (o2 : Option Nat) (o3 : Option Nat) (x4 : Int32) (o5 : Option Nat) (h : xH) : Option xH := (xgR h o0 3 2).bind fun a_1 => (xgR h o3 1 0).bind fun a_2 => (xgI h o5 6 2).bind fun v_3 => (xgI h o5 6 3).bind fun v_4 => (xcv h a_1 9).bind fun _ => (fn100 a_1 a_2 v_3 v_4 h).bind fun h_5 => (xgI h_5 o5 6 0).bind fun v_6 => (if v_6 = 2 then (xgR h_5 o0 3 2).bind fun a_8 => (xgR h_5 o5 6 7).bind fun a_9 => (xcv h_5 o1 5).bind fun _ => (fn58 o1 a_9 h_5).bind fun r_10 => (fn27 a_8 r_10.1 r_10.2).bind fun h_11 => j29_132 k46 o0 o1 o2 o3 x4 o5 h_11 else j29_132 k46 o0 o1 o2 o3 x4 o5 h_5)
theorem j29_86_ok {xs : List Int32} {d : Nat} (hd : 7 ≤ d) {k46 : Option Nat → Option Nat → Option Nat → Option Nat → Int32 → xH → Option xH} (hk46 : ∀ {u5 : Value} {o0 : Option Nat} {o1 : Option Nat} {o2 : Option Nat} {o3 : Option Nat} {x4 : Int32} {h : xH} {r : xH}, u5.category = 1 → k46 o0 o1 o2 o3 x4 h = some r → xEv (xTa xs) d 29 (46, [xrv o0, xrv o1, xrv o2, xrv o3, .int x4, u5], [], h) (none, r)) {o0 : Option Nat} {o1 : Option Nat} {o2 : Option Nat} {o3 : Option Nat} {x4 : Int32} {o5 : Option Nat} {h : xH} {r : xH} (hf : j29_86 k46 o0 o1 o2 o3 x4 o5 h = some r) : xEv (xTa xs) d 29 (86, [xrv o0, xrv o1, xrv o2, xrv o3, .int x4, xrv o5], [], h) (none, r) := by
  unfold j29_86 at hf
  refine sh_aload (i' := 0) (n := 1) i29_86 (Or.inr ⟨rfl, by decide⟩) rfl ?_
  obtain ⟨a_1, ea_1, hf⟩ := x_bind hf
  refine sh_getR i29_87 f29_22 ea_1 ?_
  refine sh_aload (i' := 3) (n := 1) i29_90 (Or.inr ⟨rfl, by decide⟩) rfl ?_
  obtain ⟨a_2, ea_2, hf⟩ := x_bind hf
  refine sh_getR i29_91 f29_172 ea_2 ?_
  refine sh_aload (i' := 5) (n := 2) i29_94 (Or.inl rfl) rfl ?_
  obtain ⟨v_3, ev_3, hf⟩ := x_bind hf
  refine sh_getI i29_96 f29_197 ev_3 ?_
  refine sh_aload (i' := 5) (n := 2) i29_99 (Or.inl rfl) rfl ?_
  obtain ⟨v_4, ev_4, hf⟩ := x_bind hf
  refine sh_getI i29_101 f29_200 ev_4 ?_
  obtain ⟨_, eu_13, hf⟩ := x_bind hf
  obtain ⟨h_5, eh_5, hf⟩ := x_bind hf
  refine sh_inv (as := [.int v_4, .int v_3, xrv a_2]) (z := (none, h_5)) i29_104 v29_203 (Or.inl ⟨by decide, rfl⟩) m100 rfl (Nat.le_of_ble_eq_true rfl) eu_13 (fn100_call (by omega) eh_5) ?_
  refine sh_aload (i' := 5) (n := 2) i29_107 (Or.inl rfl) rfl ?_
  obtain ⟨v_6, ev_6, hf⟩ := x_bind hf
  refine sh_getI i29_109 f29_206 ev_6 ?_
  refine ev_do i29_112 rfl ?_
  refine ev_icmp (t := 132) i29_113 rfl (fun c_7 => ?_) (fun c_7 => ?_)
  · replace hf := x_neg (show ¬ v_6 = 2 from c_7) hf
    exact j29_132_ok hd hk46 hf
  · replace hf := x_pos (show v_6 = 2 from Decidable.byContradiction (fun h9 => c_7 h9)) hf
    refine sh_aload (i' := 0) (n := 1) i29_116 (Or.inr ⟨rfl, by decide⟩) rfl ?_
    obtain ⟨a_8, ea_8, hf⟩ := x_bind hf
    refine sh_getR i29_117 f29_22 ea_8 ?_
    refine sh_aload (i' := 1) (n := 1) i29_120 (Or.inr ⟨rfl, by decide⟩) rfl ?_
    refine sh_aload (i' := 5) (n := 2) i29_121 (Or.inl rfl) rfl ?_
    obtain ⟨a_9, ea_9, hf⟩ := x_bind hf
    refine sh_getR i29_123 f29_207 ea_9 ?_
    obtain ⟨_, eu_12, hf⟩ := x_bind hf
    obtain ⟨r_10, er_10, hf⟩ := x_bind hf
    refine sh_inv (as := [xrv a_9]) (z := (some (.int r_10.1), r_10.2)) i29_126 v29_211 (Or.inl ⟨by decide, rfl⟩) m58 rfl (by simp [xcat, xrv_cat, xc_i, xc_j, xc_a, xc_f]) eu_12 (fn58_call (by omega) er_10) ?_
    obtain ⟨h_11, eh_11, hf⟩ := x_bind hf
    refine ev_sta (as := [.int r_10.1, xrv a_8]) (z := (none, h_11)) i29_129 v29_127 (Or.inl rfl) m27 rfl (Nat.le_of_ble_eq_true rfl) (fn27_call (by omega) eh_11) ?_
    exact j29_132_ok hd hk46 hf
def l29_46  : Nat → Option Nat → Option Nat → Option Nat → Option Nat → Int32 → xH → Option xH
  | 0 => fun _ _ _ _ _ _ => none
  | n + 1 => fun o0 o1 o2 o3 x4 h => (xgI h o2 0 5).bind fun v_1 => (if v_1 ≤ x4 then some h else (xgI h o2 0 4).bind fun v_3 => (xcv h o3 1).bind fun _ => (fn6 o3 (v_3 + x4) h).bind fun r_4 => (if r_4.1 = none then some r_4.2 else (xgI r_4.2 r_4.1 6 6).bind fun v_6 => (if v_6 = 0 then (xcv r_4.2 o0 3).bind fun _ => (fn31 o0 r_4.2).bind fun h_8 => j29_86 (l29_46 n) o0 o1 o2 o3 x4 r_4.1 h_8 else j29_86 (l29_46 n) o0 o1 o2 o3 x4 r_4.1 r_4.2)))
theorem l29_46_ok {xs : List Int32} {d : Nat} (hd : 7 ≤ d) : ∀ (n : Nat) {u5 : Value} {o0 : Option Nat} {o1 : Option Nat} {o2 : Option Nat} {o3 : Option Nat} {x4 : Int32} {h : xH} {r : xH} (hu5 : u5.category = 1), l29_46 n o0 o1 o2 o3 x4 h = some r → xEv (xTa xs) d 29 (46, [xrv o0, xrv o1, xrv o2, xrv o3, .int x4, u5], [], h) (none, r) := by
  intro n
  induction n with
  | zero => intros; rename_i hf; cases hf
  | succ n ih =>
    intro u5 o0 o1 o2 o3 x4 h r hu5 hf
    replace hf : ((xgI h o2 0 5).bind fun v_1 => (if v_1 ≤ x4 then some h else (xgI h o2 0 4).bind fun v_3 => (xcv h o3 1).bind fun _ => (fn6 o3 (v_3 + x4) h).bind fun r_4 => (if r_4.1 = none then some r_4.2 else (xgI r_4.2 r_4.1 6 6).bind fun v_6 => (if v_6 = 0 then (xcv r_4.2 o0 3).bind fun _ => (fn31 o0 r_4.2).bind fun h_8 => j29_86 (l29_46 n) o0 o1 o2 o3 x4 r_4.1 h_8 else j29_86 (l29_46 n) o0 o1 o2 o3 x4 r_4.1 r_4.2)))) = some r := hf
    refine ev_do i29_46 rfl ?_
    refine sh_aload (i' := 2) (n := 1) i29_48 (Or.inr ⟨rfl, by decide⟩) rfl ?_
    obtain ⟨v_1, ev_1, hf⟩ := x_bind hf
    refine sh_getI i29_49 f29_179 ev_1 ?_
    refine ev_icmp (t := 142) i29_52 rfl (fun c_2 => ?_) (fun c_2 => ?_)
    · replace hf := x_pos (show v_1 ≤ x4 from c_2) hf
      obtain rfl := Option.some.inj hf
      exact sh_vret i29_142 m29 rfl
    · replace hf := x_neg (show ¬ v_1 ≤ x4 from c_2) hf
      refine sh_aload (i' := 3) (n := 1) i29_55 (Or.inr ⟨rfl, by decide⟩) rfl ?_
      refine sh_aload (i' := 2) (n := 1) i29_56 (Or.inr ⟨rfl, by decide⟩) rfl ?_
      obtain ⟨v_3, ev_3, hf⟩ := x_bind hf
      refine sh_getI i29_57 f29_182 ev_3 ?_
      refine ev_do i29_60 rfl ?_
      refine ev_do i29_62 rfl ?_
      obtain ⟨_, eu_10, hf⟩ := x_bind hf
      obtain ⟨r_4, er_4, hf⟩ := x_bind hf
      refine sh_inv (as := [.int (v_3 + x4)]) (z := (some (xrv r_4.1), r_4.2)) i29_63 v29_185 (Or.inl ⟨by decide, rfl⟩) m6 rfl (Nat.le_of_ble_eq_true rfl) eu_10 (fn6_call (by omega) er_4) ?_
      refine sh_astore (i' := 5) (n := 2) i29_66 (Or.inl rfl) (xokst_of (Nat.le_of_ble_eq_true rfl) rfl) ?_
      refine sh_aload (i' := 5) (n := 2) i29_68 (Or.inl rfl) rfl ?_
      refine sh_nnul (t := 74) i29_70 rfl (fun c_5 => ?_) (fun c_5 => ?_)
      · replace hf := x_pos c_5 hf
        obtain rfl := Option.some.inj hf
        exact sh_vret i29_73 m29 rfl
      · replace hf := x_neg c_5 hf
        refine sh_aload (i' := 5) (n := 2) i29_74 (Or.inl rfl) rfl ?_
        obtain ⟨v_6, ev_6, hf⟩ := x_bind hf
        refine sh_getI i29_76 f29_189 ev_6 ?_
        refine ev_if (t := 86) i29_79 rfl (fun c_7 => ?_) (fun c_7 => ?_)
        · replace hf := x_neg (show ¬ v_6 = 0 from c_7) hf
          exact j29_86_ok hd ih hf
        · replace hf := x_pos (show v_6 = 0 from Decidable.byContradiction (fun h9 => c_7 h9)) hf
          refine sh_aload (i' := 0) (n := 1) i29_82 (Or.inr ⟨rfl, by decide⟩) rfl ?_
          obtain ⟨_, eu_9, hf⟩ := x_bind hf
          obtain ⟨h_8, eh_8, hf⟩ := x_bind hf
          refine sh_inv (as := []) (z := (none, h_8)) i29_83 v29_194 (Or.inl ⟨by decide, rfl⟩) m31 rfl (Nat.le_of_ble_eq_true rfl) eu_9 (fn31_call (by omega) eh_8) ?_
          exact j29_86_ok hd ih hf
def j29_43  (o0 : Option Nat) (o1 : Option Nat) (o2 : Option Nat) (o3 : Option Nat) (h : xH) : Option xH := l29_46 xFuel o0 o1 o2 o3 0 h
theorem j29_43_ok {xs : List Int32} {d : Nat} (hd : 7 ≤ d) {u4 : Value} {u5 : Value} {o0 : Option Nat} {o1 : Option Nat} {o2 : Option Nat} {o3 : Option Nat} {h : xH} {r : xH} (hu4 : u4.category = 1) (hu5 : u5.category = 1) (hf : j29_43 o0 o1 o2 o3 h = some r) : xEv (xTa xs) d 29 (43, [xrv o0, xrv o1, xrv o2, xrv o3, u4, u5], [], h) (none, r) := by
  unfold j29_43 at hf
  refine ev_do i29_43 rfl ?_
  refine sh_istore (i' := 4) (n := 2) i29_44 (Or.inl rfl) (xokst_of (Nat.le_of_ble_eq_true rfl) (xrv_cat (o3))) ?_
  exact l29_46_ok hd xFuel hu5 hf
def fn29 (o0 : Option Nat) (o1 : Option Nat) (o2 : Option Nat) (h : xH) : Option xH := (xgR h o0 3 2).bind fun a_1 => (xcv h a_1 9).bind fun _ => (fn101 a_1 0 h).bind fun h_2 => (xpF h_2 o0 3 4 .int (.int 0)).bind fun h_3 => (xgR h_3 o2 0 0).bind fun a_4 => (if a_4 = none then some h_3 else (xgI h_3 o2 0 1).bind fun v_6 => (fn138 v_6 h_3).bind fun r_7 => (if r_7.1 = 0 then j29_43 o0 o1 o2 a_4 r_7.2 else (xgR r_7.2 a_4 1 0).bind fun a_9 => (xcv r_7.2 o0 3).bind fun _ => (fn30 o0 o1 o2 a_9 r_7.2).bind fun h_10 => j29_43 o0 o1 o2 a_4 h_10))
theorem fn29_call {xs : List Int32} {d : Nat} (hd : 8 ≤ d) {o0 : Option Nat} {o1 : Option Nat} {o2 : Option Nat} {h : xH} {r : xH} (hf : fn29 o0 o1 o2 h = some r) : xCall (xTa xs) d 29 [xrv o0, xrv o1, xrv o2] h (none, r) := by
  obtain ⟨d, rfl⟩ : ∃ d2, d = d2 + 1 := ⟨d - 1, by omega⟩
  replace hd : 7 ≤ d := by omega
  refine call_of2 (fl := [xrv o0, xrv o1, xrv o2]) (Ls := [xrv o0, xrv o1, xrv o2, .float 0, .float 0, .float 0]) m29 (by simp [xfl, xrv_cat, xc_i, xc_j, xc_a, xc_f]) (Nat.le_of_ble_eq_true rfl) rfl ?_
  unfold fn29 at hf
  refine sh_aload (i' := 0) (n := 1) i29_0 (Or.inr ⟨rfl, by decide⟩) rfl ?_
  obtain ⟨a_1, ea_1, hf⟩ := x_bind hf
  refine sh_getR i29_1 f29_22 ea_1 ?_
  refine ev_do i29_4 rfl ?_
  obtain ⟨_, eu_12, hf⟩ := x_bind hf
  obtain ⟨h_2, eh_2, hf⟩ := x_bind hf
  refine sh_inv (as := [.int 0]) (z := (none, h_2)) i29_5 v29_124 (Or.inl ⟨by decide, rfl⟩) m101 rfl (Nat.le_of_ble_eq_true rfl) eu_12 (fn101_call (by omega) eh_2) ?_
  refine sh_aload (i' := 0) (n := 1) i29_8 (Or.inr ⟨rfl, by decide⟩) rfl ?_
  refine ev_do i29_9 rfl ?_
  obtain ⟨h_3, eh_3, hf⟩ := x_bind hf
  refine sh_put i29_10 f29_166 (by decide) rfl eh_3 ?_
  refine sh_aload (i' := 2) (n := 1) i29_13 (Or.inr ⟨rfl, by decide⟩) rfl ?_
  obtain ⟨a_4, ea_4, hf⟩ := x_bind hf
  refine sh_getR i29_14 f29_76 ea_4 ?_
  refine sh_astore (i' := 3) (n := 1) i29_17 (Or.inr ⟨rfl, by decide⟩) (xokst_of (Nat.le_of_ble_eq_true rfl) (xrv_cat (o2))) ?_
  refine sh_aload (i' := 3) (n := 1) i29_18 (Or.inr ⟨rfl, by decide⟩) rfl ?_
  refine sh_nnul (t := 23) i29_19 rfl (fun c_5 => ?_) (fun c_5 => ?_)
  · replace hf := x_pos c_5 hf
    obtain rfl := Option.some.inj hf
    exact sh_vret i29_22 m29 rfl
  · replace hf := x_neg c_5 hf
    refine sh_aload (i' := 2) (n := 1) i29_23 (Or.inr ⟨rfl, by decide⟩) rfl ?_
    obtain ⟨v_6, ev_6, hf⟩ := x_bind hf
    refine sh_getI i29_24 f29_55 ev_6 ?_
    obtain ⟨r_7, er_7, hf⟩ := x_bind hf
    refine ev_sta (as := [.int v_6]) (z := (some (.int r_7.1), r_7.2)) i29_27 v29_68 (Or.inr rfl) m138 rfl (Nat.le_of_ble_eq_true rfl) (fn138_call (by omega) er_7) ?_
    refine ev_if (t := 43) i29_30 rfl (fun c_8 => ?_) (fun c_8 => ?_)
    · replace hf := x_pos (show r_7.1 = 0 from c_8) hf
      exact j29_43_ok hd rfl rfl hf
    · replace hf := x_neg (show ¬ r_7.1 = 0 from c_8) hf
      refine sh_aload (i' := 0) (n := 1) i29_33 (Or.inr ⟨rfl, by decide⟩) rfl ?_
      refine sh_aload (i' := 1) (n := 1) i29_34 (Or.inr ⟨rfl, by decide⟩) rfl ?_
      refine sh_aload (i' := 2) (n := 1) i29_35 (Or.inr ⟨rfl, by decide⟩) rfl ?_
      refine sh_aload (i' := 3) (n := 1) i29_36 (Or.inr ⟨rfl, by decide⟩) rfl ?_
      obtain ⟨a_9, ea_9, hf⟩ := x_bind hf
      refine sh_getR i29_37 f29_172 ea_9 ?_
      obtain ⟨_, eu_11, hf⟩ := x_bind hf
      obtain ⟨h_10, eh_10, hf⟩ := x_bind hf
      refine sh_inv (as := [xrv a_9, xrv o2, xrv o1]) (z := (none, h_10)) i29_40 v29_175 (Or.inl ⟨by decide, rfl⟩) m30 rfl (Nat.le_of_ble_eq_true rfl) eu_11 (fn30_call (by omega) eh_10) ?_
      exact j29_43_ok hd rfl rfl hf
end
section
def j34_28  (o0 : Option Nat) (x1 : Int32) (s0 : Int32) (h : xH) : Option (Int32 × xH) := some (s0, h)
theorem j34_28_ok {xs : List Int32} {d : Nat} (hd : 1 ≤ d) {o0 : Option Nat} {x1 : Int32} {s0 : Int32} {h : xH} {r : (Int32 × xH)} (hf : j34_28 o0 x1 s0 h = some r) : xEv (xTa xs) d 34 (28, [xrv o0, .int x1], [.int s0], h) (some (.int r.1), r.2) := by
  unfold j34_28 at hf
  obtain rfl := Option.some.inj hf
  exact sh_iret i34_28 m34 rfl rfl
def j34_12  (o0 : Option Nat) (x1 : Int32) (h : xH) : Option (Int32 × xH) := (xgR h o0 3 2).bind fun a_1 => (xgI h a_1 9 1).bind fun v_2 => j34_28 o0 x1 v_2 h
theorem j34_12_ok {xs : List Int32} {d : Nat} (hd : 1 ≤ d) {o0 : Option Nat} {x1 : Int32} {h : xH} {r : (Int32 × xH)} (hf : j34_12 o0 x1 h = some r) : xEv (xTa xs) d 34 (12, [xrv o0, .int x1], [], h) (some (.int r.1), r.2) := by
  unfold j34_12 at hf
  refine sh_aload (i' := 0) (n := 1) i34_12 (Or.inr ⟨rfl, by decide⟩) rfl ?_
  obtain ⟨a_1, ea_1, hf⟩ := x_bind hf
  refine sh_getR i34_13 f34_22 ea_1 ?_
  obtain ⟨v_2, ev_2, hf⟩ := x_bind hf
  refine sh_getI i34_16 f34_131 ev_2 ?_
  refine sh_goto (t := 28) i34_19 rfl ?_
  exact j34_28_ok hd hf
def fn34 (o0 : Option Nat) (x1 : Int32) (h : xH) : Option (Int32 × xH) := (if x1 < 0 then j34_12 o0 x1 h else (xgI h o0 3 4).bind fun v_2 => (if x1 ≤ v_2 then (xgR h o0 3 3).bind fun a_4 => (xaI h 13 a_4 x1).bind fun v_5 => j34_28 o0 x1 v_5 h else j34_12 o0 x1 h))
theorem fn34_call {xs : List Int32} {d : Nat} (hd : 2 ≤ d) {o0 : Option Nat} {x1 : Int32} {h : xH} {r : (Int32 × xH)} (hf : fn34 o0 x1 h = some r) : xCall (xTa xs) d 34 [xrv o0, .int x1] h (some (.int r.1), r.2) := by
  obtain ⟨d, rfl⟩ : ∃ d2, d = d2 + 1 := ⟨d - 1, by omega⟩
  replace hd : 1 ≤ d := by omega
  refine call_of2 (fl := [xrv o0, .int x1]) (Ls := [xrv o0, .int x1]) m34 (by simp [xfl, xrv_cat, xc_i, xc_j, xc_a, xc_f]) (Nat.le_of_ble_eq_true rfl) rfl ?_
  unfold fn34 at hf
  refine ev_do i34_0 rfl ?_
  refine ev_if (t := 12) i34_1 rfl (fun c_1 => ?_) (fun c_1 => ?_)
  · replace hf := x_pos (show x1 < 0 from c_1) hf
    exact j34_12_ok hd hf
  · replace hf := x_neg (show ¬ x1 < 0 from c_1) hf
    refine ev_do i34_4 rfl ?_
    refine sh_aload (i' := 0) (n := 1) i34_5 (Or.inr ⟨rfl, by decide⟩) rfl ?_
    obtain ⟨v_2, ev_2, hf⟩ := x_bind hf
    refine sh_getI i34_6 f34_166 ev_2 ?_
    refine ev_icmp (t := 22) i34_9 rfl (fun c_3 => ?_) (fun c_3 => ?_)
    · replace hf := x_pos (show x1 ≤ v_2 from c_3) hf
      refine sh_aload (i' := 0) (n := 1) i34_22 (Or.inr ⟨rfl, by decide⟩) rfl ?_
      obtain ⟨a_4, ea_4, hf⟩ := x_bind hf
      refine sh_getR i34_23 f34_26 ea_4 ?_
      refine ev_do i34_26 rfl ?_
      obtain ⟨v_5, ev_5, hf⟩ := x_bind hf
      refine sh_aldI (tg := 13) i34_27 (Or.inl ⟨rfl, rfl⟩) ev_5 ?_
      exact j34_28_ok hd hf
    · replace hf := x_neg (show ¬ x1 ≤ v_2 from c_3) hf
      exact j34_12_ok hd hf
end
section
def j33_15  (o0 : Option Nat) (x1 : Int32) (x2 : Int32) (s0 : Int32) (h : xH) : Option (Int32 × xH) := (xcv h o0 3).bind fun _ => (fn34 o0 x2 h).bind fun r_1 => (xcv r_1.2 o0 3).bind fun _ => (fn34 o0 x1 r_1.2).bind fun r_2 => some (((((s0 + r_1.1) - r_2.1) + x2) - x1) - 1, r_2.2)
theorem j33_15_ok {xs : List Int32} {d : Nat} (hd : 2 ≤ d) {u3 : Value} {o0 : Option Nat} {x1 : Int32} {x2 : Int32} {s0 : Int32} {h : xH} {r : (Int32 × xH)} (hu3 : u3.category = 1) (hf : j33_15 o0 x1 x2 s0 h = some r) : xEv (xTa xs) d 33 (15, [xrv o0, .int x1, .int x2, u3], [.int s0], h) (some (.int r.1), r.2) := by
  unfold j33_15 at hf
  refine sh_istore (i' := 3) (n := 1) i33_15 (Or.inr ⟨rfl, by decide⟩) (xokst_of (Nat.le_of_ble_eq_true rfl) rfl) ?_
  refine ev_do i33_16 rfl ?_
  refine sh_aload (i' := 0) (n := 1) i33_17 (Or.inr ⟨rfl, by decide⟩) rfl ?_
  refine ev_do i33_18 rfl ?_
  obtain ⟨_, eu_4, hf⟩ := x_bind hf
  obtain ⟨r_1, er_1, hf⟩ := x_bind hf
  refine sh_inv (as := [.int x2]) (z := (some (.int r_1.1), r_1.2)) i33_19 v33_237 (Or.inl ⟨by decide, rfl⟩) m34 rfl (Nat.le_of_ble_eq_true rfl) eu_4 (fn34_call (by omega) er_1) ?_
  refine ev_do i33_22 rfl ?_
  refine sh_aload (i' := 0) (n := 1) i33_23 (Or.inr ⟨rfl, by decide⟩) rfl ?_
  refine ev_do i33_24 rfl ?_
  obtain ⟨_, eu_3, hf⟩ := x_bind hf
  obtain ⟨r_2, er_2, hf⟩ := x_bind hf
  refine sh_inv (as := [.int x1]) (z := (some (.int r_2.1), r_2.2)) i33_25 v33_237 (Or.inl ⟨by decide, rfl⟩) m34 rfl (Nat.le_of_ble_eq_true rfl) eu_3 (fn34_call (by omega) er_2) ?_
  refine ev_do i33_28 rfl ?_
  refine ev_do i33_29 rfl ?_
  refine ev_do i33_30 rfl ?_
  refine ev_do i33_31 rfl ?_
  refine ev_do i33_32 rfl ?_
  refine ev_do i33_33 rfl ?_
  refine ev_do i33_34 rfl ?_
  obtain rfl := Option.some.inj hf
  exact sh_iret i33_35 m33 rfl rfl
def fn33 (o0 : Option Nat) (x1 : Int32) (x2 : Int32) (h : xH) : Option (Int32 × xH) := (if x1 = 0 then (xgI h o0 3 8).bind fun v_2 => j33_15 o0 x1 x2 v_2 h else (xgI h o0 3 9).bind fun v_3 => j33_15 o0 x1 x2 v_3 h)
theorem fn33_call {xs : List Int32} {d : Nat} (hd : 3 ≤ d) {o0 : Option Nat} {x1 : Int32} {x2 : Int32} {h : xH} {r : (Int32 × xH)} (hf : fn33 o0 x1 x2 h = some r) : xCall (xTa xs) d 33 [xrv o0, .int x1, .int x2] h (some (.int r.1), r.2) := by
  obtain ⟨d, rfl⟩ : ∃ d2, d = d2 + 1 := ⟨d - 1, by omega⟩
  replace hd : 2 ≤ d := by omega
  refine call_of2 (fl := [xrv o0, .int x1, .int x2]) (Ls := [xrv o0, .int x1, .int x2, .float 0]) m33 (by simp [xfl, xrv_cat, xc_i, xc_j, xc_a, xc_f]) (Nat.le_of_ble_eq_true rfl) rfl ?_
  unfold fn33 at hf
  refine ev_do i33_0 rfl ?_
  refine ev_if (t := 11) i33_1 rfl (fun c_1 => ?_) (fun c_1 => ?_)
  · replace hf := x_neg (show ¬ x1 = 0 from c_1) hf
    refine sh_aload (i' := 0) (n := 1) i33_11 (Or.inr ⟨rfl, by decide⟩) rfl ?_
    obtain ⟨v_3, ev_3, hf⟩ := x_bind hf
    refine sh_getI i33_12 f33_154 ev_3 ?_
    exact j33_15_ok hd rfl hf
  · replace hf := x_pos (show x1 = 0 from Decidable.byContradiction (fun h9 => c_1 h9)) hf
    refine sh_aload (i' := 0) (n := 1) i33_4 (Or.inr ⟨rfl, by decide⟩) rfl ?_
    obtain ⟨v_2, ev_2, hf⟩ := x_bind hf
    refine sh_getI i33_5 f33_151 ev_2 ?_
    refine sh_goto (t := 15) i33_8 rfl ?_
    exact j33_15_ok hd rfl hf
end
section
def j35_33  (o0 : Option Nat) (x1 : Int32) (x2 : Int32) (h : xH) : Option (Int32 × xH) := some (x2, h)
theorem j35_33_ok {xs : List Int32} {d : Nat} (hd : 3 ≤ d) {o0 : Option Nat} {x1 : Int32} {x2 : Int32} {h : xH} {r : (Int32 × xH)} (hf : j35_33 o0 x1 x2 h = some r) : xEv (xTa xs) d 35 (33, [xrv o0, .int x1, .int x2], [], h) (some (.int r.1), r.2) := by
  unfold j35_33 at hf
  refine ev_do i35_33 rfl ?_
  obtain rfl := Option.some.inj hf
  exact sh_iret i35_34 m35 rfl rfl
def l35_4  : Nat → Option Nat → Int32 → Int32 → xH → Option (Int32 × xH)
  | 0 => fun _ _ _ _ => none
  | n + 1 => fun o0 x1 x2 h => (xgI h o0 3 4).bind fun v_1 => (if v_1 ≤ x2 then j35_33 o0 x1 x2 h else (xcv h o0 3).bind fun _ => (fn33 o0 x1 (x2 + 1) h).bind fun r_3 => (xgI r_3.2 o0 3 7).bind fun v_4 => (if v_4 < r_3.1 then j35_33 o0 x1 x2 r_3.2 else l35_4 n o0 x1 (x2 + 1) r_3.2))
theorem l35_4_ok {xs : List Int32} {d : Nat} (hd : 3 ≤ d) : ∀ (n : Nat) {o0 : Option Nat} {x1 : Int32} {x2 : Int32} {h : xH} {r : (Int32 × xH)}, l35_4 n o0 x1 x2 h = some r → xEv (xTa xs) d 35 (4, [xrv o0, .int x1, .int x2], [], h) (some (.int r.1), r.2) := by
  intro n
  induction n with
  | zero => intros; rename_i hf; cases hf
  | succ n ih =>
    intro o0 x1 x2 h r hf
    replace hf : ((xgI h o0 3 4).bind fun v_1 => (if v_1 ≤ x2 then j35_33 o0 x1 x2 h else (xcv h o0 3).bind fun _ => (fn33 o0 x1 (x2 + 1) h).bind fun r_3 => (xgI r_3.2 o0 3 7).bind fun v_4 => (if v_4 < r_3.1 then j35_33 o0 x1 x2 r_3.2 else l35_4 n o0 x1 (x2 + 1) r_3.2))) = some r := hf
    refine ev_do i35_4 rfl ?_
    refine sh_aload (i' := 0) (n := 1) i35_5 (Or.inr ⟨rfl, by decide⟩) rfl ?_
    obtain ⟨v_1, ev_1, hf⟩ := x_bind hf
    refine sh_getI i35_6 f35_166 ev_1 ?_
    refine ev_icmp (t := 33) i35_9 rfl (fun c_2 => ?_) (fun c_2 => ?_)
    · replace hf := x_pos (show v_1 ≤ x2 from c_2) hf
      exact j35_33_ok hd hf
    · replace hf := x_neg (show ¬ v_1 ≤ x2 from c_2) hf
      refine sh_aload (i' := 0) (n := 1) i35_12 (Or.inr ⟨rfl, by decide⟩) rfl ?_
      refine ev_do i35_13 rfl ?_
      refine ev_do i35_14 rfl ?_
      refine ev_do i35_15 rfl ?_
      refine ev_do i35_16 rfl ?_
      obtain ⟨_, eu_6, hf⟩ := x_bind hf
      obtain ⟨r_3, er_3, hf⟩ := x_bind hf
      refine sh_inv (as := [.int (x2 + 1), .int x1]) (z := (some (.int r_3.1), r_3.2)) i35_17 v35_241 (Or.inl ⟨by decide, rfl⟩) m33 rfl (Nat.le_of_ble_eq_true rfl) eu_6 (fn33_call (by omega) er_3) ?_
      refine sh_aload (i' := 0) (n := 1) i35_20 (Or.inr ⟨rfl, by decide⟩) rfl ?_
      obtain ⟨v_4, ev_4, hf⟩ := x_bind hf
      refine sh_getI i35_21 f35_83 ev_4 ?_
      refine ev_icmp (t := 33) i35_24 rfl (fun c_5 => ?_) (fun c_5 => ?_)
      · replace hf := x_pos (show v_4 < r_3.1 from c_5) hf
        exact j35_33_ok hd hf
      · replace hf := x_neg (show ¬ v_4 < r_3.1 from c_5) hf
        refine sh_inc (i' := 2) i35_27 rfl (xokst_of (Nat.le_of_ble_eq_true rfl) rfl) rfl ?_
        refine sh_goto (t := 4) i35_30 rfl ?_
        exact ih hf
def fn35 (o0 : Option Nat) (x1 : Int32) (h : xH) : Option (Int32 × xH) := l35_4 xFuel o0 x1 (x1 + 1) h
theorem fn35_call {xs : List Int32} {d : Nat} (hd : 4 ≤ d) {o0 : Option Nat} {x1 : Int32} {h : xH} {r : (Int32 × xH)} (hf : fn35 o0 x1 h = some r) : xCall (xTa xs) d 35 [xrv o0, .int x1] h (some (.int r.1), r.2) := by
  obtain ⟨d, rfl⟩ : ∃ d2, d = d2 + 1 := ⟨d - 1, by omega⟩
  replace hd : 3 ≤ d := by omega
  refine call_of2 (fl := [xrv o0, .int x1]) (Ls := [xrv o0, .int x1, .float 0]) m35 (by simp [xfl, xrv_cat, xc_i, xc_j, xc_a, xc_f]) (Nat.le_of_ble_eq_true rfl) rfl ?_
  unfold fn35 at hf
  refine ev_do i35_0 rfl ?_
  refine ev_do i35_1 rfl ?_
  refine ev_do i35_2 rfl ?_
  refine sh_istore (i' := 2) (n := 1) i35_3 (Or.inr ⟨rfl, by decide⟩) (xokst_of (Nat.le_of_ble_eq_true rfl) rfl) ?_
  exact l35_4_ok hd xFuel hf
end
section
def l37_2  : Nat → Option Nat → Int32 → xH → Option xH
  | 0 => fun _ _ _ => none
  | n + 1 => fun o0 x1 h => (xgI h o0 3 4).bind fun v_1 => (if v_1 ≤ x1 then some h else (xgR h o0 3 5).bind fun a_3 => (xcv h o0 3).bind fun _ => (fn35 o0 x1 h).bind fun r_4 => (xaS r_4.2 13 (fun x => x) a_3 x1 r_4.1).bind fun h_5 => l37_2 n o0 (x1 + 1) h_5)
theorem l37_2_ok {xs : List Int32} {d : Nat} (hd : 4 ≤ d) : ∀ (n : Nat) {o0 : Option Nat} {x1 : Int32} {h : xH} {r : xH}, l37_2 n o0 x1 h = some r → xEv (xTa xs) d 37 (2, [xrv o0, .int x1], [], h) (none, r) := by
  intro n
  induction n with
  | zero => intros; rename_i hf; cases hf
  | succ n ih =>
    intro o0 x1 h r hf
    replace hf : ((xgI h o0 3 4).bind fun v_1 => (if v_1 ≤ x1 then some h else (xgR h o0 3 5).bind fun a_3 => (xcv h o0 3).bind fun _ => (fn35 o0 x1 h).bind fun r_4 => (xaS r_4.2 13 (fun x => x) a_3 x1 r_4.1).bind fun h_5 => l37_2 n o0 (x1 + 1) h_5)) = some r := hf
    refine ev_do i37_2 rfl ?_
    refine sh_aload (i' := 0) (n := 1) i37_3 (Or.inr ⟨rfl, by decide⟩) rfl ?_
    obtain ⟨v_1, ev_1, hf⟩ := x_bind hf
    refine sh_getI i37_4 f37_166 ev_1 ?_
    refine ev_icmp (t := 27) i37_7 rfl (fun c_2 => ?_) (fun c_2 => ?_)
    · replace hf := x_pos (show v_1 ≤ x1 from c_2) hf
      obtain rfl := Option.some.inj hf
      exact sh_vret i37_27 m37 rfl
    · replace hf := x_neg (show ¬ v_1 ≤ x1 from c_2) hf
      refine sh_aload (i' := 0) (n := 1) i37_10 (Or.inr ⟨rfl, by decide⟩) rfl ?_
      obtain ⟨a_3, ea_3, hf⟩ := x_bind hf
      refine sh_getR i37_11 f37_30 ea_3 ?_
      refine ev_do i37_14 rfl ?_
      refine sh_aload (i' := 0) (n := 1) i37_15 (Or.inr ⟨rfl, by decide⟩) rfl ?_
      refine ev_do i37_16 rfl ?_
      obtain ⟨_, eu_6, hf⟩ := x_bind hf
      obtain ⟨r_4, er_4, hf⟩ := x_bind hf
      refine sh_inv (as := [.int x1]) (z := (some (.int r_4.1), r_4.2)) i37_17 v37_250 (Or.inl ⟨by decide, rfl⟩) m35 rfl (by simp [xcat, xrv_cat, xc_i, xc_j, xc_a, xc_f]) eu_6 (fn35_call (by omega) er_4) ?_
      obtain ⟨h_5, eh_5, hf⟩ := x_bind hf
      refine sh_ast (tg := 13) i37_20 (Or.inl ⟨rfl, rfl, rfl⟩) eh_5 ?_
      refine sh_inc (i' := 1) i37_21 rfl (xokst_of (Nat.le_of_ble_eq_true rfl) (xrv_cat (o0))) rfl ?_
      refine sh_goto (t := 2) i37_24 rfl ?_
      exact ih hf
def fn37 (o0 : Option Nat) (h : xH) : Option xH := l37_2 xFuel o0 0 h
theorem fn37_call {xs : List Int32} {d : Nat} (hd : 5 ≤ d) {o0 : Option Nat} {h : xH} {r : xH} (hf : fn37 o0 h = some r) : xCall (xTa xs) d 37 [xrv o0] h (none, r) := by
  obtain ⟨d, rfl⟩ : ∃ d2, d = d2 + 1 := ⟨d - 1, by omega⟩
  replace hd : 4 ≤ d := by omega
  refine call_of2 (fl := [xrv o0]) (Ls := [xrv o0, .float 0]) m37 (by simp [xfl, xrv_cat, xc_i, xc_j, xc_a, xc_f]) (Nat.le_of_ble_eq_true rfl) rfl ?_
  unfold fn37 at hf
  refine ev_do i37_0 rfl ?_
  refine sh_istore (i' := 1) (n := 1) i37_1 (Or.inr ⟨rfl, by decide⟩) (xokst_of (Nat.le_of_ble_eq_true rfl) (xrv_cat (o0))) ?_
  exact l37_2_ok hd xFuel hf
end
