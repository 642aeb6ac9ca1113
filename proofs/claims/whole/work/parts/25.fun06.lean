section
def j64_72  (o0 : Option Nat) (x1 : Int32) (x2 : Int32) (x3 : Int32) (s0 : Int32) (h : xH) : Option (Int32 × xH) := some (s0, h)
theorem j64_72_ok {xs : List Int32} {d : Nat} (hd : 2 ≤ d) {o0 : Option Nat} {x1 : Int32} {x2 : Int32} {x3 : Int32} {s0 : Int32} {h : xH} {r : (Int32 × xH)} (hf : j64_72 o0 x1 x2 x3 s0 h = some r) : xEv (xTa xs) d 64 (72, [xrv o0, .int x1, .int x2, .int x3], [.int s0], h) (some (.int r.1), r.2) := by
  unfold j64_72 at hf
  obtain rfl := Option.some.inj hf
  exact sh_iret i64_72 m64 rfl rfl
def j64_62  (o0 : Option Nat) (x1 : Int32) (x2 : Int32) (s0 : Int32) (h : xH) : Option (Int32 × xH) := (if s0 = 0 then j64_72 o0 x1 x2 s0 3 h else j64_72 o0 x1 x2 s0 2 h)
theorem j64_62_ok {xs : List Int32} {d : Nat} (hd : 2 ≤ d) {u3 : Value} {o0 : Option Nat} {x1 : Int32} {x2 : Int32} {s0 : Int32} {h : xH} {r : (Int32 × xH)} (hu3 : u3.category = 1) (hf : j64_62 o0 x1 x2 s0 h = some r) : xEv (xTa xs) d 64 (62, [xrv o0, .int x1, .int x2, u3], [.int s0], h) (some (.int r.1), r.2) := by
  unfold j64_62 at hf
  refine sh_istore (i' := 3) (n := 1) i64_62 (Or.inr ⟨rfl, by decide⟩) (xokst_of (Nat.le_of_ble_eq_true rfl) rfl) ?_
  refine ev_do i64_63 rfl ?_
  refine ev_if (t := 71) i64_64 rfl (fun c_1 => ?_) (fun c_1 => ?_)
  · replace hf := x_pos (show s0 = 0 from c_1) hf
    refine ev_do i64_71 rfl ?_
    exact j64_72_ok hd hf
  · replace hf := x_neg (show ¬ s0 = 0 from c_1) hf
    refine ev_do i64_67 rfl ?_
    refine sh_goto (t := 72) i64_68 rfl ?_
    exact j64_72_ok hd hf
def j64_61  (o0 : Option Nat) (x1 : Int32) (x2 : Int32) (h : xH) : Option (Int32 × xH) := j64_62 o0 x1 x2 0 h
theorem j64_61_ok {xs : List Int32} {d : Nat} (hd : 2 ≤ d) {u3 : Value} {o0 : Option Nat} {x1 : Int32} {x2 : Int32} {h : xH} {r : (Int32 × xH)} (hu3 : u3.category = 1) (hf : j64_61 o0 x1 x2 h = some r) : xEv (xTa xs) d 64 (61, [xrv o0, .int x1, .int x2, u3], [], h) (some (.int r.1), r.2) := by
  unfold j64_61 at hf
  refine ev_do i64_61 rfl ?_
  exact j64_62_ok hd hu3 hf
def j64_57  (o0 : Option Nat) (x1 : Int32) (x2 : Int32) (h : xH) : Option (Int32 × xH) := j64_62 o0 x1 x2 1 h
theorem j64_57_ok {xs : List Int32} {d : Nat} (hd : 2 ≤ d) {u3 : Value} {o0 : Option Nat} {x1 : Int32} {x2 : Int32} {h : xH} {r : (Int32 × xH)} (hu3 : u3.category = 1) (hf : j64_57 o0 x1 x2 h = some r) : xEv (xTa xs) d 64 (57, [xrv o0, .int x1, .int x2, u3], [], h) (some (.int r.1), r.2) := by
  unfold j64_57 at hf
  refine ev_do i64_57 rfl ?_
  refine sh_goto (t := 62) i64_58 rfl ?_
  exact j64_62_ok hd hu3 hf
def fn64 (o0 : Option Nat) (x1 : Int32) (x2 : Int32) (h : xH) : Option (Int32 × xH) := (if x1 < x2 then (xgR h o0 7 2).bind fun a_2 => (xcv h a_2 9).bind fun _ => (fn96 a_2 x1 h).bind fun r_3 => (if r_3.1 = 64 then some (1, r_3.2) else (xgR r_3.2 o0 7 2).bind fun a_5 => (xcv r_3.2 a_5 9).bind fun _ => (fn96 a_5 x1 r_3.2).bind fun r_6 => (if r_6.1 = 45 then (if (x1 + 1) = x2 then j64_57 o0 x1 x2 r_6.2 else (xgR r_6.2 o0 7 2).bind fun a_9 => (xcv r_6.2 a_9 9).bind fun _ => (fn96 a_9 (x1 + 1) r_6.2).bind fun r_10 => (if r_10.1 = 32 then j64_57 o0 x1 x2 r_10.2 else j64_61 o0 x1 x2 r_10.2)) else j64_61 o0 x1 x2 r_6.2)) else some (0, h))
theorem fn64_call {xs : List Int32} {d : Nat} (hd : 3 ≤ d) {o0 : Option Nat} {x1 : Int32} {x2 : Int32} {h : xH} {r : (Int32 × xH)} (hf : fn64 o0 x1 x2 h = some r) : xCall (xTa xs) d 64 [xrv o0, .int x1, .int x2] h (some (.int r.1), r.2) := by
  obtain ⟨d, rfl⟩ : ∃ d2, d = d2 + 1 := ⟨d - 1, by omega⟩
  replace hd : 2 ≤ d := by omega
  refine call_of2 (fl := [xrv o0, .int x1, .int x2]) (Ls := [xrv o0, .int x1, .int x2, .float 0]) m64 (by simp [xfl, xrv_cat, xc_i, xc_j, xc_a, xc_f]) (Nat.le_of_ble_eq_true rfl) rfl ?_
  unfold fn64 at hf
  refine ev_do i64_0 rfl ?_
  refine ev_do i64_1 rfl ?_
  refine ev_icmp (t := 7) i64_2 rfl (fun c_1 => ?_) (fun c_1 => ?_)
  · replace hf := x_pos (show x1 < x2 from c_1) hf
    refine sh_aload (i' := 0) (n := 1) i64_7 (Or.inr ⟨rfl, by decide⟩) rfl ?_
    obtain ⟨a_2, ea_2, hf⟩ := x_bind hf
    refine sh_getR i64_8 f64_29 ea_2 ?_
    refine ev_do i64_11 rfl ?_
    obtain ⟨_, eu_14, hf⟩ := x_bind hf
    obtain ⟨r_3, er_3, hf⟩ := x_bind hf
    refine sh_inv (as := [.int x1]) (z := (some (.int r_3.1), r_3.2)) i64_12 v64_73 (Or.inl ⟨by decide, rfl⟩) m96 rfl (Nat.le_of_ble_eq_true rfl) eu_14 (fn96_call (by omega) er_3) ?_
    refine ev_do i64_15 rfl ?_
    refine ev_icmp (t := 22) i64_17 rfl (fun c_4 => ?_) (fun c_4 => ?_)
    · replace hf := x_neg (show ¬ r_3.1 = 64 from c_4) hf
      refine sh_aload (i' := 0) (n := 1) i64_22 (Or.inr ⟨rfl, by decide⟩) rfl ?_
      obtain ⟨a_5, ea_5, hf⟩ := x_bind hf
      refine sh_getR i64_23 f64_29 ea_5 ?_
      refine ev_do i64_26 rfl ?_
      obtain ⟨_, eu_13, hf⟩ := x_bind hf
      obtain ⟨r_6, er_6, hf⟩ := x_bind hf
      refine sh_inv (as := [.int x1]) (z := (some (.int r_6.1), r_6.2)) i64_27 v64_73 (Or.inl ⟨by decide, rfl⟩) m96 rfl (Nat.le_of_ble_eq_true rfl) eu_13 (fn96_call (by omega) er_6) ?_
      refine ev_do i64_30 rfl ?_
      refine ev_icmp (t := 61) i64_32 rfl (fun c_7 => ?_) (fun c_7 => ?_)
      · replace hf := x_neg (show ¬ r_6.1 = 45 from c_7) hf
        exact j64_61_ok hd rfl hf
      · replace hf := x_pos (show r_6.1 = 45 from Decidable.byContradiction (fun h9 => c_7 h9)) hf
        refine ev_do i64_35 rfl ?_
        refine ev_do i64_36 rfl ?_
        refine ev_do i64_37 rfl ?_
        refine ev_do i64_38 rfl ?_
        refine ev_icmp (t := 57) i64_39 rfl (fun c_8 => ?_) (fun c_8 => ?_)
        · replace hf := x_pos (show (x1 + 1) = x2 from c_8) hf
          exact j64_57_ok hd rfl hf
        · replace hf := x_neg (show ¬ (x1 + 1) = x2 from c_8) hf
          refine sh_aload (i' := 0) (n := 1) i64_42 (Or.inr ⟨rfl, by decide⟩) rfl ?_
          obtain ⟨a_9, ea_9, hf⟩ := x_bind hf
          refine sh_getR i64_43 f64_29 ea_9 ?_
          refine ev_do i64_46 rfl ?_
          refine ev_do i64_47 rfl ?_
          refine ev_do i64_48 rfl ?_
          obtain ⟨_, eu_12, hf⟩ := x_bind hf
          obtain ⟨r_10, er_10, hf⟩ := x_bind hf
          refine sh_inv (as := [.int (x1 + 1)]) (z := (some (.int r_10.1), r_10.2)) i64_49 v64_73 (Or.inl ⟨by decide, rfl⟩) m96 rfl (Nat.le_of_ble_eq_true rfl) eu_12 (fn96_call (by omega) er_10) ?_
          refine ev_do i64_52 rfl ?_
          refine ev_icmp (t := 61) i64_54 rfl (fun c_11 => ?_) (fun c_11 => ?_)
          · replace hf := x_neg (show ¬ r_10.1 = 32 from c_11) hf
            exact j64_61_ok hd rfl hf
          · replace hf := x_pos (show r_10.1 = 32 from Decidable.byContradiction (fun h9 => c_11 h9)) hf
            exact j64_57_ok hd rfl hf
    · replace hf := x_pos (show r_3.1 = 64 from Decidable.byContradiction (fun h9 => c_4 h9)) hf
      refine ev_do i64_20 rfl ?_
      obtain rfl := Option.some.inj hf
      exact sh_iret i64_21 m64 rfl rfl
  · replace hf := x_neg (show ¬ x1 < x2 from c_1) hf
    refine ev_do i64_5 rfl ?_
    obtain rfl := Option.some.inj hf
    exact sh_iret i64_6 m64 rfl rfl
end
section
def j65_25  (o0 : Option Nat) (s0 : Int32) (h : xH) : Option (Int32 × xH) := (if s0 &&& 1 = s0 then some (s0, h) else none)
theorem j65_25_ok {xs : List Int32} {d : Nat} (hd : 2 ≤ d) {o0 : Option Nat} {s0 : Int32} {h : xH} {r : (Int32 × xH)} (hf : j65_25 o0 s0 h = some r) : xEv (xTa xs) d 65 (25, [xrv o0], [.int s0], h) (some (.int r.1), r.2) := by
  unfold j65_25 at hf
  by_cases c_1 : s0 &&& 1 = s0
  · replace hf := x_pos c_1 hf
    obtain rfl := Option.some.inj hf
    exact sh_iret i65_25 m65 rfl (congrArg Value.int c_1)
  · replace hf := x_neg c_1 hf
    cases hf
def j65_24  (o0 : Option Nat) (h : xH) : Option (Int32 × xH) := j65_25 o0 0 h
theorem j65_24_ok {xs : List Int32} {d : Nat} (hd : 2 ≤ d) {o0 : Option Nat} {h : xH} {r : (Int32 × xH)} (hf : j65_24 o0 h = some r) : xEv (xTa xs) d 65 (24, [xrv o0], [], h) (some (.int r.1), r.2) := by
  unfold j65_24 at hf
  refine ev_do i65_24 rfl ?_
  exact j65_25_ok hd hf
def fn65 (o0 : Option Nat) (h : xH) : Option (Int32 × xH) := (xgR h o0 7 3).bind fun a_1 => (if a_1 = none then j65_24 o0 h else (xgR h o0 7 3).bind fun a_3 => (xgI h a_3 0 1).bind fun v_4 => (fn138 v_4 h).bind fun r_5 => (if r_5.1 = 0 then j65_24 o0 r_5.2 else j65_25 o0 1 r_5.2))
theorem fn65_call {xs : List Int32} {d : Nat} (hd : 3 ≤ d) {o0 : Option Nat} {h : xH} {r : (Int32 × xH)} (hf : fn65 o0 h = some r) : xCall (xTa xs) d 65 [xrv o0] h (some (.int r.1), r.2) := by
  obtain ⟨d, rfl⟩ : ∃ d2, d = d2 + 1 := ⟨d - 1, by omega⟩
  replace hd : 2 ≤ d := by omega
  refine call_of2 (fl := [xrv o0]) (Ls := [xrv o0]) m65 (by simp [xfl, xrv_cat, xc_i, xc_j, xc_a, xc_f]) (Nat.le_of_ble_eq_true rfl) rfl ?_
  unfold fn65 at hf
  refine sh_aload (i' := 0) (n := 1) i65_0 (Or.inr ⟨rfl, by decide⟩) rfl ?_
  obtain ⟨a_1, ea_1, hf⟩ := x_bind hf
  refine sh_getR i65_1 f65_30 ea_1 ?_
  refine sh_null (t := 24) i65_4 rfl (fun c_2 => ?_) (fun c_2 => ?_)
  · replace hf := x_pos c_2 hf
    exact j65_24_ok hd hf
  · replace hf := x_neg c_2 hf
    refine sh_aload (i' := 0) (n := 1) i65_7 (Or.inr ⟨rfl, by decide⟩) rfl ?_
    obtain ⟨a_3, ea_3, hf⟩ := x_bind hf
    refine sh_getR i65_8 f65_30 ea_3 ?_
    obtain ⟨v_4, ev_4, hf⟩ := x_bind hf
    refine sh_getI i65_11 f65_84 ev_4 ?_
    obtain ⟨r_5, er_5, hf⟩ := x_bind hf
    refine ev_sta (as := [.int v_4]) (z := (some (.int r_5.1), r_5.2)) i65_14 v65_89 (Or.inr rfl) m138 rfl (Nat.le_of_ble_eq_true rfl) (fn138_call (by omega) er_5) ?_
    refine ev_if (t := 24) i65_17 rfl (fun c_6 => ?_) (fun c_6 => ?_)
    · replace hf := x_pos (show r_5.1 = 0 from c_6) hf
      exact j65_24_ok hd hf
    · replace hf := x_neg (show ¬ r_5.1 = 0 from c_6) hf
      refine ev_do i65_20 rfl ?_
      refine sh_goto (t := 25) i65_21 rfl ?_
      exact j65_25_ok hd hf
end
section
def j66_38  (o0 : Option Nat) (x1 : Int32) (x2 : Int32) (h : xH) : Option xH := some h
theorem j66_38_ok {xs : List Int32} {d : Nat} (hd : 2 ≤ d) {o0 : Option Nat} {x1 : Int32} {x2 : Int32} {h : xH} {r : xH} (hf : j66_38 o0 x1 x2 h = some r) : xEv (xTa xs) d 66 (38, [xrv o0, .int x1, .int x2], [], h) (none, r) := by
  unfold j66_38 at hf
  obtain rfl := Option.some.inj hf
  exact sh_vret i66_38 m66 rfl
def j66_32  (o0 : Option Nat) (x1 : Int32) (x2 : Int32) (h : xH) : Option xH := (xcv h o0 7).bind fun _ => (fn62 o0 x2 4 h).bind fun h_1 => j66_38 o0 x1 x2 h_1
theorem j66_32_ok {xs : List Int32} {d : Nat} (hd : 2 ≤ d) {o0 : Option Nat} {x1 : Int32} {x2 : Int32} {h : xH} {r : xH} (hf : j66_32 o0 x1 x2 h = some r) : xEv (xTa xs) d 66 (32, [xrv o0, .int x1, .int x2], [], h) (none, r) := by
  unfold j66_32 at hf
  refine sh_aload (i' := 0) (n := 1) i66_32 (Or.inr ⟨rfl, by decide⟩) rfl ?_
  refine ev_do i66_33 rfl ?_
  refine ev_do i66_34 rfl ?_
  obtain ⟨_, eu_2, hf⟩ := x_bind hf
  obtain ⟨h_1, eh_1, hf⟩ := x_bind hf
  refine sh_inv (as := [.int 4, .int x2]) (z := (none, h_1)) i66_35 v66_81 (Or.inl ⟨by decide, rfl⟩) m62 rfl (Nat.le_of_ble_eq_true rfl) eu_2 (fn62_call (by omega) eh_1) ?_
  exact j66_38_ok hd hf
def fn66 (o0 : Option Nat) (x1 : Int32) (x2 : Int32) (h : xH) : Option xH := (xgR h o0 7 1).bind fun a_1 => (xcv h a_1 1).bind fun _ => (fn7 a_1 x1 x2 h).bind fun r_2 => (xpF r_2.2 o0 7 3 (.object "DocFormat$Block") (xrv r_2.1)).bind fun h_3 => (xgR h_3 o0 7 3).bind fun a_4 => (if a_4 = none then j66_32 o0 x1 x2 h_3 else (xgR h_3 o0 7 1).bind fun a_6 => (xgI h_3 a_6 1 3).bind fun v_7 => (if v_7 ≤ 24 then j66_38 o0 x1 x2 h_3 else j66_32 o0 x1 x2 h_3))
theorem fn66_call {xs : List Int32} {d : Nat} (hd : 3 ≤ d) {o0 : Option Nat} {x1 : Int32} {x2 : Int32} {h : xH} {r : xH} (hf : fn66 o0 x1 x2 h = some r) : xCall (xTa xs) d 66 [xrv o0, .int x1, .int x2] h (none, r) := by
  obtain ⟨d, rfl⟩ : ∃ d2, d = d2 + 1 := ⟨d - 1, by omega⟩
  replace hd : 2 ≤ d := by omega
  refine call_of2 (fl := [xrv o0, .int x1, .int x2]) (Ls := [xrv o0, .int x1, .int x2]) m66 (by simp [xfl, xrv_cat, xc_i, xc_j, xc_a, xc_f]) (Nat.le_of_ble_eq_true rfl) rfl ?_
  unfold fn66 at hf
  refine sh_aload (i' := 0) (n := 1) i66_0 (Or.inr ⟨rfl, by decide⟩) rfl ?_
  refine sh_aload (i' := 0) (n := 1) i66_1 (Or.inr ⟨rfl, by decide⟩) rfl ?_
  obtain ⟨a_1, ea_1, hf⟩ := x_bind hf
  refine sh_getR i66_2 f66_20 ea_1 ?_
  refine ev_do i66_5 rfl ?_
  refine ev_do i66_6 rfl ?_
  obtain ⟨_, eu_9, hf⟩ := x_bind hf
  obtain ⟨r_2, er_2, hf⟩ := x_bind hf
  refine sh_inv (as := [.int x2, .int x1]) (z := (some (xrv r_2.1), r_2.2)) i66_7 v66_93 (Or.inl ⟨by decide, rfl⟩) m7 rfl (by simp [xcat, xrv_cat, xc_i, xc_j, xc_a, xc_f]) eu_9 (fn7_call (by omega) er_2) ?_
  obtain ⟨h_3, eh_3, hf⟩ := x_bind hf
  refine sh_put i66_10 f66_30 (by decide) rfl eh_3 ?_
  refine sh_aload (i' := 0) (n := 1) i66_13 (Or.inr ⟨rfl, by decide⟩) rfl ?_
  obtain ⟨a_4, ea_4, hf⟩ := x_bind hf
  refine sh_getR i66_14 f66_30 ea_4 ?_
  refine sh_null (t := 32) i66_17 rfl (fun c_5 => ?_) (fun c_5 => ?_)
  · replace hf := x_pos c_5 hf
    exact j66_32_ok hd hf
  · replace hf := x_neg c_5 hf
    refine sh_aload (i' := 0) (n := 1) i66_20 (Or.inr ⟨rfl, by decide⟩) rfl ?_
    obtain ⟨a_6, ea_6, hf⟩ := x_bind hf
    refine sh_getR i66_21 f66_20 ea_6 ?_
    obtain ⟨v_7, ev_7, hf⟩ := x_bind hf
    refine sh_getI i66_24 f66_97 ev_7 ?_
    refine ev_do i66_27 rfl ?_
    refine ev_icmp (t := 38) i66_29 rfl (fun c_8 => ?_) (fun c_8 => ?_)
    · replace hf := x_pos (show v_7 ≤ 24 from c_8) hf
      exact j66_38_ok hd hf
    · replace hf := x_neg (show ¬ v_7 ≤ 24 from c_8) hf
      exact j66_32_ok hd hf
end
section
def j76_23  (x0 : Int32) (s0 : Int32) (h : xH) : Option (Int32 × xH) := (if s0 &&& 1 = s0 then some (s0, h) else none)
theorem j76_23_ok {xs : List Int32} {d : Nat} (hd : 1 ≤ d) {x0 : Int32} {s0 : Int32} {h : xH} {r : (Int32 × xH)} (hf : j76_23 x0 s0 h = some r) : xEv (xTa xs) d 76 (23, [.int x0], [.int s0], h) (some (.int r.1), r.2) := by
  unfold j76_23 at hf
  by_cases c_1 : s0 &&& 1 = s0
  · replace hf := x_pos c_1 hf
    obtain rfl := Option.some.inj hf
    exact sh_iret i76_23 m76 rfl (congrArg Value.int c_1)
  · replace hf := x_neg c_1 hf
    cases hf
def j76_18  (x0 : Int32) (h : xH) : Option (Int32 × xH) := j76_23 x0 1 h
theorem j76_18_ok {xs : List Int32} {d : Nat} (hd : 1 ≤ d) {x0 : Int32} {h : xH} {r : (Int32 × xH)} (hf : j76_18 x0 h = some r) : xEv (xTa xs) d 76 (18, [.int x0], [], h) (some (.int r.1), r.2) := by
  unfold j76_18 at hf
  refine ev_do i76_18 rfl ?_
  refine sh_goto (t := 23) i76_19 rfl ?_
  exact j76_23_ok hd hf
def fn76 (x0 : Int32) (h : xH) : Option (Int32 × xH) := (if x0 = 32 then j76_18 x0 h else (if x0 = 123 then j76_18 x0 h else (if x0 = 125 then j76_18 x0 h else j76_23 x0 0 h)))
theorem fn76_call {xs : List Int32} {d : Nat} (hd : 2 ≤ d) {x0 : Int32} {h : xH} {r : (Int32 × xH)} (hf : fn76 x0 h = some r) : xCall (xTa xs) d 76 [.int x0] h (some (.int r.1), r.2) := by
  obtain ⟨d, rfl⟩ : ∃ d2, d = d2 + 1 := ⟨d - 1, by omega⟩
  replace hd : 1 ≤ d := by omega
  refine call_of2 (fl := [.int x0]) (Ls := [.int x0]) m76 (by simp [xfl, xrv_cat, xc_i, xc_j, xc_a, xc_f]) (Nat.le_of_ble_eq_true rfl) rfl ?_
  unfold fn76 at hf
  refine ev_do i76_0 rfl ?_
  refine ev_do i76_1 rfl ?_
  refine ev_icmp (t := 18) i76_3 rfl (fun c_1 => ?_) (fun c_1 => ?_)
  · replace hf := x_pos (show x0 = 32 from c_1) hf
    exact j76_18_ok hd hf
  · replace hf := x_neg (show ¬ x0 = 32 from c_1) hf
    refine ev_do i76_6 rfl ?_
    refine ev_do i76_7 rfl ?_
    refine ev_icmp (t := 18) i76_9 rfl (fun c_2 => ?_) (fun c_2 => ?_)
    · replace hf := x_pos (show x0 = 123 from c_2) hf
      exact j76_18_ok hd hf
    · replace hf := x_neg (show ¬ x0 = 123 from c_2) hf
      refine ev_do i76_12 rfl ?_
      refine ev_do i76_13 rfl ?_
      refine ev_icmp (t := 22) i76_15 rfl (fun c_3 => ?_) (fun c_3 => ?_)
      · replace hf := x_neg (show ¬ x0 = 125 from c_3) hf
        refine ev_do i76_22 rfl ?_
        exact j76_23_ok hd hf
      · replace hf := x_pos (show x0 = 125 from Decidable.byContradiction (fun h9 => c_3 h9)) hf
        exact j76_18_ok hd hf
end
section
def j77_34  (o0 : Option Nat) (x1 : Int32) (x2 : Int32) (x3 : Int32) (o4 : Option Nat) (h : xH) : Option (Option Nat × xH) := some (o4, h)
theorem j77_34_ok {xs : List Int32} {d : Nat} (hd : 2 ≤ d) {o0 : Option Nat} {x1 : Int32} {x2 : Int32} {x3 : Int32} {o4 : Option Nat} {h : xH} {r : (Option Nat × xH)} (hf : j77_34 o0 x1 x2 x3 o4 h = some r) : xEv (xTa xs) d 77 (34, [xrv o0, .int x1, .int x2, .int x3, xrv o4], [], h) (some (xrv r.1), r.2) := by
  unfold j77_34 at hf
  refine sh_aload (i' := 4) (n := 2) i77_34 (Or.inl rfl) rfl ?_
  obtain rfl := Option.some.inj hf
  exact sh_aret i77_36 m77 rfl
def fn77 (o0 : Option Nat) (x1 : Int32) (x2 : Int32) (x3 : Int32) (h : xH) : Option (Option Nat × xH) := (if x3 = 0 then (xcv h o0 7).bind fun _ => (fn62 o0 x1 2 h).bind fun h_2 => some (none, h_2) else (xgR h o0 7 1).bind fun a_4 => (xcv h a_4 1).bind fun _ => (fn8 a_4 x1 x2 h).bind fun r_5 => (if r_5.1 = none then (xcv r_5.2 o0 7).bind fun _ => (fn62 o0 x1 4 r_5.2).bind fun h_7 => j77_34 o0 x1 x2 x3 r_5.1 h_7 else j77_34 o0 x1 x2 x3 r_5.1 r_5.2))
theorem fn77_call {xs : List Int32} {d : Nat} (hd : 3 ≤ d) {o0 : Option Nat} {x1 : Int32} {x2 : Int32} {x3 : Int32} {h : xH} {r : (Option Nat × xH)} (hf : fn77 o0 x1 x2 x3 h = some r) : xCall (xTa xs) d 77 [xrv o0, .int x1, .int x2, .int x3] h (some (xrv r.1), r.2) := by
  obtain ⟨d, rfl⟩ : ∃ d2, d = d2 + 1 := ⟨d - 1, by omega⟩
  replace hd : 2 ≤ d := by omega
  refine call_of2 (fl := [xrv o0, .int x1, .int x2, .int x3]) (Ls := [xrv o0, .int x1, .int x2, .int x3, .float 0]) m77 (by simp [xfl, xrv_cat, xc_i, xc_j, xc_a, xc_f]) (Nat.le_of_ble_eq_true rfl) rfl ?_
  unfold fn77 at hf
  refine ev_do i77_0 rfl ?_
  refine ev_if (t := 12) i77_1 rfl (fun c_1 => ?_) (fun c_1 => ?_)
  · replace hf := x_neg (show ¬ x3 = 0 from c_1) hf
    refine sh_aload (i' := 0) (n := 1) i77_12 (Or.inr ⟨rfl, by decide⟩) rfl ?_
    obtain ⟨a_4, ea_4, hf⟩ := x_bind hf
    refine sh_getR i77_13 f77_20 ea_4 ?_
    refine ev_do i77_16 rfl ?_
    refine ev_do i77_17 rfl ?_
    obtain ⟨_, eu_9, hf⟩ := x_bind hf
    obtain ⟨r_5, er_5, hf⟩ := x_bind hf
    refine sh_inv (as := [.int x2, .int x1]) (z := (some (xrv r_5.1), r_5.2)) i77_18 v77_226 (Or.inl ⟨by decide, rfl⟩) m8 rfl (Nat.le_of_ble_eq_true rfl) eu_9 (fn8_call (by omega) er_5) ?_
    refine sh_astore (i' := 4) (n := 2) i77_21 (Or.inl rfl) (xokst_of (Nat.le_of_ble_eq_true rfl) rfl) ?_
    refine sh_aload (i' := 4) (n := 2) i77_23 (Or.inl rfl) rfl ?_
    refine sh_nnul (t := 34) i77_25 rfl (fun c_6 => ?_) (fun c_6 => ?_)
    · replace hf := x_pos c_6 hf
      refine sh_aload (i' := 0) (n := 1) i77_28 (Or.inr ⟨rfl, by decide⟩) rfl ?_
      refine ev_do i77_29 rfl ?_
      refine ev_do i77_30 rfl ?_
      obtain ⟨_, eu_8, hf⟩ := x_bind hf
      obtain ⟨h_7, eh_7, hf⟩ := x_bind hf
      refine sh_inv (as := [.int 4, .int x1]) (z := (none, h_7)) i77_31 v77_81 (Or.inl ⟨by decide, rfl⟩) m62 rfl (Nat.le_of_ble_eq_true rfl) eu_8 (fn62_call (by omega) eh_7) ?_
      exact j77_34_ok hd hf
    · replace hf := x_neg c_6 hf
      exact j77_34_ok hd hf
  · replace hf := x_pos (show x3 = 0 from Decidable.byContradiction (fun h9 => c_1 h9)) hf
    refine sh_aload (i' := 0) (n := 1) i77_4 (Or.inr ⟨rfl, by decide⟩) rfl ?_
    refine ev_do i77_5 rfl ?_
    refine ev_do i77_6 rfl ?_
    obtain ⟨_, eu_3, hf⟩ := x_bind hf
    obtain ⟨h_2, eh_2, hf⟩ := x_bind hf
    refine sh_inv (as := [.int 2, .int x1]) (z := (none, h_2)) i77_7 v77_81 (Or.inl ⟨by decide, rfl⟩) m62 rfl (Nat.le_of_ble_eq_true rfl) eu_3 (fn62_call (by omega) eh_2) ?_
    refine sh_cnull i77_10 ?_
    obtain rfl := Option.some.inj hf
    exact sh_aret i77_11 m77 rfl
end
section
def j75_40  (o0 : Option Nat) (x1 : Int32) (x2 : Int32) (x3 : Int32) (s0 : Option Nat) (s1 : Int32) (s2 : Int32) (s3 : Int32) (h : xH) : Option (Option Nat × xH) := (xcv h s0 7).bind fun _ => (fn77 s0 s1 s2 s3 h).bind fun r_1 => some (r_1.1, r_1.2)
theorem j75_40_ok {xs : List Int32} {d : Nat} (hd : 3 ≤ d) {o0 : Option Nat} {x1 : Int32} {x2 : Int32} {x3 : Int32} {s0 : Option Nat} {s1 : Int32} {s2 : Int32} {s3 : Int32} {h : xH} {r : (Option Nat × xH)} (hf : j75_40 o0 x1 x2 x3 s0 s1 s2 s3 h = some r) : xEv (xTa xs) d 75 (40, [xrv o0, .int x1, .int x2, .int x3], [.int s3, .int s2, .int s1, xrv s0], h) (some (xrv r.1), r.2) := by
  unfold j75_40 at hf
  obtain ⟨_, eu_2, hf⟩ := x_bind hf
  obtain ⟨r_1, er_1, hf⟩ := x_bind hf
  refine sh_inv (as := [.int s3, .int s2, .int s1]) (z := (some (xrv r_1.1), r_1.2)) i75_40 v75_222 (Or.inl ⟨by decide, rfl⟩) m77 rfl (Nat.le_of_ble_eq_true rfl) eu_2 (fn77_call (by omega) er_1) ?_
  obtain rfl := Option.some.inj hf
  exact sh_aret i75_43 m75 rfl
def j75_27  (o0 : Option Nat) (x1 : Int32) (x2 : Int32) (x3 : Int32) (h : xH) : Option (Option Nat × xH) := (if x3 ≤ x1 then j75_40 o0 x1 x2 x3 o0 x1 x3 0 h else j75_40 o0 x1 x2 x3 o0 x1 x3 1 h)
theorem j75_27_ok {xs : List Int32} {d : Nat} (hd : 3 ≤ d) {o0 : Option Nat} {x1 : Int32} {x2 : Int32} {x3 : Int32} {h : xH} {r : (Option Nat × xH)} (hf : j75_27 o0 x1 x2 x3 h = some r) : xEv (xTa xs) d 75 (27, [xrv o0, .int x1, .int x2, .int x3], [], h) (some (xrv r.1), r.2) := by
  unfold j75_27 at hf
  refine sh_aload (i' := 0) (n := 1) i75_27 (Or.inr ⟨rfl, by decide⟩) rfl ?_
  refine ev_do i75_28 rfl ?_
  refine ev_do i75_29 rfl ?_
  refine ev_do i75_30 rfl ?_
  refine ev_do i75_31 rfl ?_
  refine ev_icmp (t := 39) i75_32 rfl (fun c_1 => ?_) (fun c_1 => ?_)
  · replace hf := x_pos (show x3 ≤ x1 from c_1) hf
    refine ev_do i75_39 rfl ?_
    exact j75_40_ok hd hf
  · replace hf := x_neg (show ¬ x3 ≤ x1 from c_1) hf
    refine ev_do i75_35 rfl ?_
    refine sh_goto (t := 40) i75_36 rfl ?_
    exact j75_40_ok hd hf
def l75_2  : Nat → Option Nat → Int32 → Int32 → Int32 → xH → Option (Option Nat × xH)
  | 0 => fun _ _ _ _ _ => none
  | n + 1 => fun o0 x1 x2 x3 h => (if x2 ≤ x3 then j75_27 o0 x1 x2 x3 h else (xgR h o0 7 2).bind fun a_2 => (xcv h a_2 9).bind fun _ => (fn96 a_2 x3 h).bind fun r_3 => (fn76 r_3.1 r_3.2).bind fun r_4 => (if r_4.1 = 0 then l75_2 n o0 x1 x2 (x3 + 1) r_4.2 else j75_27 o0 x1 x2 x3 r_4.2))
theorem l75_2_ok {xs : List Int32} {d : Nat} (hd : 3 ≤ d) : ∀ (n : Nat) {o0 : Option Nat} {x1 : Int32} {x2 : Int32} {x3 : Int32} {h : xH} {r : (Option Nat × xH)}, l75_2 n o0 x1 x2 x3 h = some r → xEv (xTa xs) d 75 (2, [xrv o0, .int x1, .int x2, .int x3], [], h) (some (xrv r.1), r.2) := by
  intro n
  induction n with
  | zero => intros; rename_i hf; cases hf
  | succ n ih =>
    intro o0 x1 x2 x3 h r hf
    replace hf : ((if x2 ≤ x3 then j75_27 o0 x1 x2 x3 h else (xgR h o0 7 2).bind fun a_2 => (xcv h a_2 9).bind fun _ => (fn96 a_2 x3 h).bind fun r_3 => (fn76 r_3.1 r_3.2).bind fun r_4 => (if r_4.1 = 0 then l75_2 n o0 x1 x2 (x3 + 1) r_4.2 else j75_27 o0 x1 x2 x3 r_4.2))) = some r := hf
    refine ev_do i75_2 rfl ?_
    refine ev_do i75_3 rfl ?_
    refine ev_icmp (t := 27) i75_4 rfl (fun c_1 => ?_) (fun c_1 => ?_)
    · replace hf := x_pos (show x2 ≤ x3 from c_1) hf
      exact j75_27_ok hd hf
    · replace hf := x_neg (show ¬ x2 ≤ x3 from c_1) hf
      refine sh_aload (i' := 0) (n := 1) i75_7 (Or.inr ⟨rfl, by decide⟩) rfl ?_
      obtain ⟨a_2, ea_2, hf⟩ := x_bind hf
      refine sh_getR i75_8 f75_29 ea_2 ?_
      refine ev_do i75_11 rfl ?_
      obtain ⟨_, eu_6, hf⟩ := x_bind hf
      obtain ⟨r_3, er_3, hf⟩ := x_bind hf
      refine sh_inv (as := [.int x3]) (z := (some (.int r_3.1), r_3.2)) i75_12 v75_73 (Or.inl ⟨by decide, rfl⟩) m96 rfl (Nat.le_of_ble_eq_true rfl) eu_6 (fn96_call (by omega) er_3) ?_
      obtain ⟨r_4, er_4, hf⟩ := x_bind hf
      refine ev_sta (as := [.int r_3.1]) (z := (some (.int r_4.1), r_4.2)) i75_15 v75_219 (Or.inl rfl) m76 rfl (Nat.le_of_ble_eq_true rfl) (fn76_call (by omega) er_4) ?_
      refine ev_if (t := 27) i75_18 rfl (fun c_5 => ?_) (fun c_5 => ?_)
      · replace hf := x_neg (show ¬ r_4.1 = 0 from c_5) hf
        exact j75_27_ok hd hf
      · replace hf := x_pos (show r_4.1 = 0 from Decidable.byContradiction (fun h9 => c_5 h9)) hf
        refine sh_inc (i' := 3) i75_21 rfl (xokst_of (Nat.le_of_ble_eq_true rfl) rfl) rfl ?_
        refine sh_goto (t := 2) i75_24 rfl ?_
        exact ih hf
def fn75 (o0 : Option Nat) (x1 : Int32) (x2 : Int32) (h : xH) : Option (Option Nat × xH) := l75_2 xFuel o0 x1 x2 x1 h
theorem fn75_call {xs : List Int32} {d : Nat} (hd : 4 ≤ d) {o0 : Option Nat} {x1 : Int32} {x2 : Int32} {h : xH} {r : (Option Nat × xH)} (hf : fn75 o0 x1 x2 h = some r) : xCall (xTa xs) d 75 [xrv o0, .int x1, .int x2] h (some (xrv r.1), r.2) := by
  obtain ⟨d, rfl⟩ : ∃ d2, d = d2 + 1 := ⟨d - 1, by omega⟩
  replace hd : 3 ≤ d := by omega
  refine call_of2 (fl := [xrv o0, .int x1, .int x2]) (Ls := [xrv o0, .int x1, .int x2, .float 0]) m75 (by simp [xfl, xrv_cat, xc_i, xc_j, xc_a, xc_f]) (Nat.le_of_ble_eq_true rfl) rfl ?_
  unfold fn75 at hf
  refine ev_do i75_0 rfl ?_
  refine sh_istore (i' := 3) (n := 1) i75_1 (Or.inr ⟨rfl, by decide⟩) (xokst_of (Nat.le_of_ble_eq_true rfl) rfl) ?_
  exact l75_2_ok hd xFuel hf
end
section
def j78_121  (o0 : Option Nat) (x1 : Int32) (x2 : Int32) (x3 : Int32) (x4 : Int32) (x5 : Int32) (o6 : Option Nat) (h : xH) : Option (Option Nat × xH) := some (o6, h)
theorem j78_121_ok {xs : List Int32} {d : Nat} (hd : 3 ≤ d) {o0 : Option Nat} {x1 : Int32} {x2 : Int32} {x3 : Int32} {x4 : Int32} {x5 : Int32} {o6 : Option Nat} {h : xH} {r : (Option Nat × xH)} (hf : j78_121 o0 x1 x2 x3 x4 x5 o6 h = some r) : xEv (xTa xs) d 78 (121, [xrv o0, .int x1, .int x2, .int x3, .int x4, .int x5, xrv o6], [], h) (some (xrv r.1), r.2) := by
  unfold j78_121 at hf
  refine sh_aload (i' := 6) (n := 2) i78_121 (Or.inl rfl) rfl ?_
  obtain rfl := Option.some.inj hf
  exact sh_aret i78_123 m78 rfl
def j78_99  (o0 : Option Nat) (x1 : Int32) (x2 : Int32) (x3 : Int32) (x4 : Int32) (x5 : Int32) (s0 : Option Nat) (s1 : Int32) (s2 : Int32) (s3 : Int32) (h : xH) : Option (Option Nat × xH) := (xcv h s0 7).bind fun _ => (fn77 s0 s1 s2 s3 h).bind fun r_1 => (if r_1.1 = none then j78_121 o0 x1 x2 x3 x4 x5 r_1.1 r_1.2 else (xpF r_1.2 r_1.1 6 0 .int (.int 1)).bind fun h_3 => (xpF h_3 r_1.1 6 2 .int (.int x3)).bind fun h_4 => j78_121 o0 x1 x2 x3 x4 x5 r_1.1 h_4)
theorem j78_99_ok {xs : List Int32} {d : Nat} (hd : 3 ≤ d) {u6 : Value} {o0 : Option Nat} {x1 : Int32} {x2 : Int32} {x3 : Int32} {x4 : Int32} {x5 : Int32} {s0 : Option Nat} {s1 : Int32} {s2 : Int32} {s3 : Int32} {h : xH} {r : (Option Nat × xH)} (hu6 : u6.category = 1) (hf : j78_99 o0 x1 x2 x3 x4 x5 s0 s1 s2 s3 h = some r) : xEv (xTa xs) d 78 (99, [xrv o0, .int x1, .int x2, .int x3, .int x4, .int x5, u6], [.int s3, .int s2, .int s1, xrv s0], h) (some (xrv r.1), r.2) := by
  unfold j78_99 at hf
  obtain ⟨_, eu_5, hf⟩ := x_bind hf
  obtain ⟨r_1, er_1, hf⟩ := x_bind hf
  refine sh_inv (as := [.int s3, .int s2, .int s1]) (z := (some (xrv r_1.1), r_1.2)) i78_99 v78_222 (Or.inl ⟨by decide, rfl⟩) m77 rfl (Nat.le_of_ble_eq_true rfl) eu_5 (fn77_call (by omega) er_1) ?_
  refine sh_astore (i' := 6) (n := 2) i78_102 (Or.inl rfl) (xokst_of (Nat.le_of_ble_eq_true rfl) rfl) ?_
  refine sh_aload (i' := 6) (n := 2) i78_104 (Or.inl rfl) rfl ?_
  refine sh_null (t := 121) i78_106 rfl (fun c_2 => ?_) (fun c_2 => ?_)
  · replace hf := x_pos c_2 hf
    exact j78_121_ok hd hf
  · replace hf := x_neg c_2 hf
    refine sh_aload (i' := 6) (n := 2) i78_109 (Or.inl rfl) rfl ?_
    refine ev_do i78_111 rfl ?_
    obtain ⟨h_3, eh_3, hf⟩ := x_bind hf
    refine sh_put i78_112 f78_215 (by decide) rfl eh_3 ?_
    refine sh_aload (i' := 6) (n := 2) i78_115 (Or.inl rfl) rfl ?_
    refine ev_do i78_117 rfl ?_
    obtain ⟨h_4, eh_4, hf⟩ := x_bind hf
    refine sh_put i78_118 f78_228 (by decide) rfl eh_4 ?_
    exact j78_121_ok hd hf
def j78_98  (o0 : Option Nat) (x1 : Int32) (x2 : Int32) (x3 : Int32) (x4 : Int32) (x5 : Int32) (s0 : Option Nat) (s1 : Int32) (s2 : Int32) (h : xH) : Option (Option Nat × xH) := j78_99 o0 x1 x2 x3 x4 x5 s0 s1 s2 0 h
theorem j78_98_ok {xs : List Int32} {d : Nat} (hd : 3 ≤ d) {u6 : Value} {o0 : Option Nat} {x1 : Int32} {x2 : Int32} {x3 : Int32} {x4 : Int32} {x5 : Int32} {s0 : Option Nat} {s1 : Int32} {s2 : Int32} {h : xH} {r : (Option Nat × xH)} (hu6 : u6.category = 1) (hf : j78_98 o0 x1 x2 x3 x4 x5 s0 s1 s2 h = some r) : xEv (xTa xs) d 78 (98, [xrv o0, .int x1, .int x2, .int x3, .int x4, .int x5, u6], [.int s2, .int s1, xrv s0], h) (some (xrv r.1), r.2) := by
  unfold j78_98 at hf
  refine ev_do i78_98 rfl ?_
  exact j78_99_ok hd hu6 hf
def j78_68  (o0 : Option Nat) (x1 : Int32) (x2 : Int32) (x3 : Int32) (x4 : Int32) (x5 : Int32) (h : xH) : Option (Option Nat × xH) := (if x4 = 0 then (fn135 ((x5 - 1) - x3) 1 60 h).bind fun r_2 => (if r_2.1 = 0 then j78_98 o0 x1 x2 x3 x4 x5 o0 x1 (x5 - 1) r_2.2 else j78_99 o0 x1 x2 x3 x4 x5 o0 x1 (x5 - 1) 1 r_2.2) else j78_98 o0 x1 x2 x3 x4 x5 o0 x1 (x5 - 1) h)
theorem j78_68_ok {xs : List Int32} {d : Nat} (hd : 3 ≤ d) {u6 : Value} {o0 : Option Nat} {x1 : Int32} {x2 : Int32} {x3 : Int32} {x4 : Int32} {x5 : Int32} {h : xH} {r : (Option Nat × xH)} (hu6 : u6.category = 1) (hf : j78_68 o0 x1 x2 x3 x4 x5 h = some r) : xEv (xTa xs) d 78 (68, [xrv o0, .int x1, .int x2, .int x3, .int x4, .int x5, u6], [], h) (some (xrv r.1), r.2) := by
  unfold j78_68 at hf
  refine sh_aload (i' := 0) (n := 1) i78_68 (Or.inr ⟨rfl, by decide⟩) rfl ?_
  refine ev_do i78_69 rfl ?_
  refine ev_do i78_70 rfl ?_
  refine ev_do i78_72 rfl ?_
  refine ev_do i78_73 rfl ?_
  refine ev_do i78_74 rfl ?_
  refine ev_if (t := 98) i78_76 rfl (fun c_1 => ?_) (fun c_1 => ?_)
  · replace hf := x_neg (show ¬ x4 = 0 from c_1) hf
    exact j78_98_ok hd hu6 hf
  · replace hf := x_pos (show x4 = 0 from Decidable.byContradiction (fun h9 => c_1 h9)) hf
    refine ev_do i78_79 rfl ?_
    refine ev_do i78_81 rfl ?_
    refine ev_do i78_82 rfl ?_
    refine ev_do i78_83 rfl ?_
    refine ev_do i78_84 rfl ?_
    refine ev_do i78_85 rfl ?_
    refine ev_do i78_86 rfl ?_
    obtain ⟨r_2, er_2, hf⟩ := x_bind hf
    refine ev_sta (as := [.int 60, .int 1, .int ((x5 - 1) - x3)]) (z := (some (.int r_2.1), r_2.2)) i78_88 v78_77 (Or.inr rfl) m135 rfl (by simp [xcat, xrv_cat, xc_i, xc_j, xc_a, xc_f]) (fn135_call (by omega) er_2) ?_
    refine ev_if (t := 98) i78_91 rfl (fun c_3 => ?_) (fun c_3 => ?_)
    · replace hf := x_pos (show r_2.1 = 0 from c_3) hf
      exact j78_98_ok hd hu6 hf
    · replace hf := x_neg (show ¬ r_2.1 = 0 from c_3) hf
      refine ev_do i78_94 rfl ?_
      refine sh_goto (t := 99) i78_95 rfl ?_
      exact j78_99_ok hd hu6 hf
def j78_62 (k14 : Option Nat → Int32 → Int32 → Int32 → Int32 → Int32 → xH → Option (Option Nat × xH)) (o0 : Option Nat) (x1 : Int32) (x2 : Int32) (x3 : Int32) (x4 : Int32) (x5 : Int32) (h : xH) : Option (Option Nat × xH) := k14 o0 x1 x2 x3 x4 (x5 + 1) h
theorem j78_62_ok {xs : List Int32} {d : Nat} (hd : 3 ≤ d) {k14 : Option Nat → Int32 → Int32 → Int32 → Int32 → Int32 → xH → Option (Option Nat × xH)} (hk14 : ∀ {u6 : Value} {o0 : Option Nat} {x1 : Int32} {x2 : Int32} {x3 : Int32} {x4 : Int32} {x5 : Int32} {h : xH} {r : (Option Nat × xH)}, u6.category = 1 → k14 o0 x1 x2 x3 x4 x5 h = some r → xEv (xTa xs) d 78 (14, [xrv o0, .int x1, .int x2, .int x3, .int x4, .int x5, u6], [], h) (some (xrv r.1), r.2)) {u6 : Value} {o0 : Option Nat} {x1 : Int32} {x2 : Int32} {x3 : Int32} {x4 : Int32} {x5 : Int32} {h : xH} {r : (Option Nat × xH)} (hu6 : u6.category = 1) (hf : j78_62 k14 o0 x1 x2 x3 x4 x5 h = some r) : xEv (xTa xs) d 78 (62, [xrv o0, .int x1, .int x2, .int x3, .int x4, .int x5, u6], [], h) (some (xrv r.1), r.2) := by
  unfold j78_62 at hf
  refine sh_inc (i' := 5) i78_62 rfl (xokst_of (Nat.le_of_ble_eq_true rfl) rfl) rfl ?_
  refine sh_goto (t := 14) i78_65 rfl ?_
  exact hk14 hu6 hf
def l78_14  : Nat → Option Nat → Int32 → Int32 → Int32 → Int32 → Int32 → xH → Option (Option Nat × xH)
  | 0 => fun _ _ _ _ _ _ _ => none
  | n + 1 => fun o0 x1 x2 x3 x4 x5 h => (if x2 ≤ x5 then j78_68 o0 x1 x2 x3 x4 x5 h else (if x4 ≤ 0 then j78_68 o0 x1 x2 x3 x4 x5 h else (xgR h o0 7 2).bind fun a_3 => (xcv h a_3 9).bind fun _ => (fn96 a_3 x5 h).bind fun r_4 => (if r_4.1 = 123 then j78_62 (l78_14 n) o0 x1 x2 x3 (x4 + 1) x5 r_4.2 else (xgR r_4.2 o0 7 2).bind fun a_6 => (xcv r_4.2 a_6 9).bind fun _ => (fn96 a_6 x5 r_4.2).bind fun r_7 => (if r_7.1 = 125 then j78_62 (l78_14 n) o0 x1 x2 x3 (x4 + (-1)) x5 r_7.2 else j78_62 (l78_14 n) o0 x1 x2 x3 x4 x5 r_7.2))))
theorem l78_14_ok {xs : List Int32} {d : Nat} (hd : 3 ≤ d) : ∀ (n : Nat) {u6 : Value} {o0 : Option Nat} {x1 : Int32} {x2 : Int32} {x3 : Int32} {x4 : Int32} {x5 : Int32} {h : xH} {r : (Option Nat × xH)} (hu6 : u6.category = 1), l78_14 n o0 x1 x2 x3 x4 x5 h = some r → xEv (xTa xs) d 78 (14, [xrv o0, .int x1, .int x2, .int x3, .int x4, .int x5, u6], [], h) (some (xrv r.1), r.2) := by
  intro n
  induction n with
  | zero => intros; rename_i hf; cases hf
  | succ n ih =>
    intro u6 o0 x1 x2 x3 x4 x5 h r hu6 hf
    replace hf : ((if x2 ≤ x5 then j78_68 o0 x1 x2 x3 x4 x5 h else (if x4 ≤ 0 then j78_68 o0 x1 x2 x3 x4 x5 h else (xgR h o0 7 2).bind fun a_3 => (xcv h a_3 9).bind fun _ => (fn96 a_3 x5 h).bind fun r_4 => (if r_4.1 = 123 then j78_62 (l78_14 n) o0 x1 x2 x3 (x4 + 1) x5 r_4.2 else (xgR r_4.2 o0 7 2).bind fun a_6 => (xcv r_4.2 a_6 9).bind fun _ => (fn96 a_6 x5 r_4.2).bind fun r_7 => (if r_7.1 = 125 then j78_62 (l78_14 n) o0 x1 x2 x3 (x4 + (-1)) x5 r_7.2 else j78_62 (l78_14 n) o0 x1 x2 x3 x4 x5 r_7.2))))) = some r := hf
    refine ev_do i78_14 rfl ?_
    refine ev_do i78_16 rfl ?_
    refine ev_icmp (t := 68) i78_17 rfl (fun c_1 => ?_) (fun c_1 => ?_)
    · replace hf := x_pos (show x2 ≤ x5 from c_1) hf
      exact j78_68_ok hd hu6 hf
    · replace hf := x_neg (show ¬ x2 ≤ x5 from c_1) hf
      refine ev_do i78_20 rfl ?_
      refine ev_if (t := 68) i78_22 rfl (fun c_2 => ?_) (fun c_2 => ?_)
      · replace hf := x_pos (show x4 ≤ 0 from c_2) hf
        exact j78_68_ok hd hu6 hf
      · replace hf := x_neg (show ¬ x4 ≤ 0 from c_2) hf
        refine sh_aload (i' := 0) (n := 1) i78_25 (Or.inr ⟨rfl, by decide⟩) rfl ?_
        obtain ⟨a_3, ea_3, hf⟩ := x_bind hf
        refine sh_getR i78_26 f78_29 ea_3 ?_
        refine ev_do i78_29 rfl ?_
        obtain ⟨_, eu_10, hf⟩ := x_bind hf
        obtain ⟨r_4, er_4, hf⟩ := x_bind hf
        refine sh_inv (as := [.int x5]) (z := (some (.int r_4.1), r_4.2)) i78_31 v78_73 (Or.inl ⟨by decide, rfl⟩) m96 rfl (Nat.le_of_ble_eq_true rfl) eu_10 (fn96_call (by omega) er_4) ?_
        refine ev_do i78_34 rfl ?_
        refine ev_icmp (t := 45) i78_36 rfl (fun c_5 => ?_) (fun c_5 => ?_)
        · replace hf := x_neg (show ¬ r_4.1 = 123 from c_5) hf
          refine sh_aload (i' := 0) (n := 1) i78_45 (Or.inr ⟨rfl, by decide⟩) rfl ?_
          obtain ⟨a_6, ea_6, hf⟩ := x_bind hf
          refine sh_getR i78_46 f78_29 ea_6 ?_
          refine ev_do i78_49 rfl ?_
          obtain ⟨_, eu_9, hf⟩ := x_bind hf
          obtain ⟨r_7, er_7, hf⟩ := x_bind hf
          refine sh_inv (as := [.int x5]) (z := (some (.int r_7.1), r_7.2)) i78_51 v78_73 (Or.inl ⟨by decide, rfl⟩) m96 rfl (Nat.le_of_ble_eq_true rfl) eu_9 (fn96_call (by omega) er_7) ?_
          refine ev_do i78_54 rfl ?_
          refine ev_icmp (t := 62) i78_56 rfl (fun c_8 => ?_) (fun c_8 => ?_)
          · replace hf := x_neg (show ¬ r_7.1 = 125 from c_8) hf
            exact j78_62_ok hd ih hu6 hf
          · replace hf := x_pos (show r_7.1 = 125 from Decidable.byContradiction (fun h9 => c_8 h9)) hf
            refine sh_inc (i' := 4) i78_59 rfl (xokst_of (Nat.le_of_ble_eq_true rfl) rfl) rfl ?_
            exact j78_62_ok hd ih hu6 hf
        · replace hf := x_pos (show r_4.1 = 123 from Decidable.byContradiction (fun h9 => c_5 h9)) hf
          refine sh_inc (i' := 4) i78_39 rfl (xokst_of (Nat.le_of_ble_eq_true rfl) rfl) rfl ?_
          refine sh_goto (t := 62) i78_42 rfl ?_
          exact j78_62_ok hd ih hu6 hf
def fn78 (o0 : Option Nat) (x1 : Int32) (x2 : Int32) (h : xH) : Option (Option Nat × xH) := (xqL 1).bind fun v_1 => l78_14 xFuel o0 x1 x2 (x1 + v_1) 1 (x1 + v_1) h
theorem fn78_call {xs : List Int32} {d : Nat} (hd : 4 ≤ d) {o0 : Option Nat} {x1 : Int32} {x2 : Int32} {h : xH} {r : (Option Nat × xH)} (hf : fn78 o0 x1 x2 h = some r) : xCall (xTa xs) d 78 [xrv o0, .int x1, .int x2] h (some (xrv r.1), r.2) := by
  obtain ⟨d, rfl⟩ : ∃ d2, d = d2 + 1 := ⟨d - 1, by omega⟩
  replace hd : 3 ≤ d := by omega
  refine call_of2 (fl := [xrv o0, .int x1, .int x2]) (Ls := [xrv o0, .int x1, .int x2, .float 0, .float 0, .float 0, .float 0]) m78 (by simp [xfl, xrv_cat, xc_i, xc_j, xc_a, xc_f]) (Nat.le_of_ble_eq_true rfl) rfl ?_
  unfold fn78 at hf
  refine ev_do i78_0 rfl ?_
  refine ev_ldc (k := 1) i78_1 (Or.inl ⟨rfl, rfl⟩) s78_193 (by decide) ?_
  obtain ⟨v_1, ev_1, hf⟩ := x_bind hf
  refine sh_tlen i78_3 v78_147 (Nat.le_of_ble_eq_true rfl) (by omega) ev_1 ?_
  refine ev_do i78_6 rfl ?_
  refine sh_istore (i' := 3) (n := 1) i78_7 (Or.inr ⟨rfl, by decide⟩) (xokst_of (Nat.le_of_ble_eq_true rfl) rfl) ?_
  refine ev_do i78_8 rfl ?_
  refine sh_istore (i' := 4) (n := 2) i78_9 (Or.inl rfl) (xokst_of (Nat.le_of_ble_eq_true rfl) rfl) ?_
  refine ev_do i78_11 rfl ?_
  refine sh_istore (i' := 5) (n := 2) i78_12 (Or.inl rfl) (xokst_of (Nat.le_of_ble_eq_true rfl) rfl) ?_
  exact l78_14_ok hd xFuel rfl hf
end
section
def j80_47  (o0 : Option Nat) (x1 : Int32) (x2 : Int32) (s0 : Int32) (h : xH) : Option (Int32 × xH) := (if s0 &&& 1 = s0 then some (s0, h) else none)
theorem j80_47_ok {xs : List Int32} {d : Nat} (hd : 3 ≤ d) {o0 : Option Nat} {x1 : Int32} {x2 : Int32} {s0 : Int32} {h : xH} {r : (Int32 × xH)} (hf : j80_47 o0 x1 x2 s0 h = some r) : xEv (xTa xs) d 80 (47, [xrv o0, .int x1, .int x2], [.int s0], h) (some (.int r.1), r.2) := by
  unfold j80_47 at hf
  by_cases c_1 : s0 &&& 1 = s0
  · replace hf := x_pos c_1 hf
    obtain rfl := Option.some.inj hf
    exact sh_iret i80_47 m80 rfl (congrArg Value.int c_1)
  · replace hf := x_neg c_1 hf
    cases hf
def j80_46  (o0 : Option Nat) (x1 : Int32) (x2 : Int32) (h : xH) : Option (Int32 × xH) := j80_47 o0 x1 x2 0 h
theorem j80_46_ok {xs : List Int32} {d : Nat} (hd : 3 ≤ d) {o0 : Option Nat} {x1 : Int32} {x2 : Int32} {h : xH} {r : (Int32 × xH)} (hf : j80_46 o0 x1 x2 h = some r) : xEv (xTa xs) d 80 (46, [xrv o0, .int x1, .int x2], [], h) (some (.int r.1), r.2) := by
  unfold j80_46 at hf
  refine ev_do i80_46 rfl ?_
  exact j80_47_ok hd hf
def fn80 (o0 : Option Nat) (x1 : Int32) (x2 : Int32) (h : xH) : Option (Int32 × xH) := (fn135 (x2 - x1) 1 60 h).bind fun r_1 => (if r_1.1 = 0 then j80_46 o0 x1 x2 r_1.2 else (xgR r_1.2 o0 7 2).bind fun a_3 => (xcv r_1.2 a_3 9).bind fun _ => (fn96 a_3 (x2 - 1) r_1.2).bind fun r_4 => (if r_4.1 = 32 then j80_46 o0 x1 x2 r_4.2 else (xgR r_4.2 o0 7 2).bind fun a_6 => (xcv r_4.2 a_6 9).bind fun _ => (fn105 a_6 123 x1 x2 r_4.2).bind fun r_7 => (if r_7.1 = x2 then j80_47 o0 x1 x2 1 r_7.2 else j80_46 o0 x1 x2 r_7.2)))
theorem fn80_call {xs : List Int32} {d : Nat} (hd : 4 ≤ d) {o0 : Option Nat} {x1 : Int32} {x2 : Int32} {h : xH} {r : (Int32 × xH)} (hf : fn80 o0 x1 x2 h = some r) : xCall (xTa xs) d 80 [xrv o0, .int x1, .int x2] h (some (.int r.1), r.2) := by
  obtain ⟨d, rfl⟩ : ∃ d2, d = d2 + 1 := ⟨d - 1, by omega⟩
  replace hd : 3 ≤ d := by omega
  refine call_of2 (fl := [xrv o0, .int x1, .int x2]) (Ls := [xrv o0, .int x1, .int x2]) m80 (by simp [xfl, xrv_cat, xc_i, xc_j, xc_a, xc_f]) (Nat.le_of_ble_eq_true rfl) rfl ?_
  unfold fn80 at hf
  refine ev_do i80_0 rfl ?_
  refine ev_do i80_1 rfl ?_
  refine ev_do i80_2 rfl ?_
  refine ev_do i80_3 rfl ?_
  refine ev_do i80_4 rfl ?_
  obtain ⟨r_1, er_1, hf⟩ := x_bind hf
  refine ev_sta (as := [.int 60, .int 1, .int (x2 - x1)]) (z := (some (.int r_1.1), r_1.2)) i80_6 v80_77 (Or.inr rfl) m135 rfl (Nat.le_of_ble_eq_true rfl) (fn135_call (by omega) er_1) ?_
  refine ev_if (t := 46) i80_9 rfl (fun c_2 => ?_) (fun c_2 => ?_)
  · replace hf := x_pos (show r_1.1 = 0 from c_2) hf
    exact j80_46_ok hd hf
  · replace hf := x_neg (show ¬ r_1.1 = 0 from c_2) hf
    refine sh_aload (i' := 0) (n := 1) i80_12 (Or.inr ⟨rfl, by decide⟩) rfl ?_
    obtain ⟨a_3, ea_3, hf⟩ := x_bind hf
    refine sh_getR i80_13 f80_29 ea_3 ?_
    refine ev_do i80_16 rfl ?_
    refine ev_do i80_17 rfl ?_
    refine ev_do i80_18 rfl ?_
    obtain ⟨_, eu_10, hf⟩ := x_bind hf
    obtain ⟨r_4, er_4, hf⟩ := x_bind hf
    refine sh_inv (as := [.int (x2 - 1)]) (z := (some (.int r_4.1), r_4.2)) i80_19 v80_73 (Or.inl ⟨by decide, rfl⟩) m96 rfl (Nat.le_of_ble_eq_true rfl) eu_10 (fn96_call (by omega) er_4) ?_
    refine ev_do i80_22 rfl ?_
    refine ev_icmp (t := 46) i80_24 rfl (fun c_5 => ?_) (fun c_5 => ?_)
    · replace hf := x_pos (show r_4.1 = 32 from c_5) hf
      exact j80_46_ok hd hf
    · replace hf := x_neg (show ¬ r_4.1 = 32 from c_5) hf
      refine sh_aload (i' := 0) (n := 1) i80_27 (Or.inr ⟨rfl, by decide⟩) rfl ?_
      obtain ⟨a_6, ea_6, hf⟩ := x_bind hf
      refine sh_getR i80_28 f80_29 ea_6 ?_
      refine ev_do i80_31 rfl ?_
      refine ev_do i80_33 rfl ?_
      refine ev_do i80_34 rfl ?_
      obtain ⟨_, eu_9, hf⟩ := x_bind hf
      obtain ⟨r_7, er_7, hf⟩ := x_bind hf
      refine sh_inv (as := [.int x2, .int x1, .int 123]) (z := (some (.int r_7.1), r_7.2)) i80_35 v80_51 (Or.inl ⟨by decide, rfl⟩) m105 rfl (Nat.le_of_ble_eq_true rfl) eu_9 (fn105_call (by omega) er_7) ?_
      refine ev_do i80_38 rfl ?_
      refine ev_icmp (t := 46) i80_39 rfl (fun c_8 => ?_) (fun c_8 => ?_)
      · replace hf := x_neg (show ¬ r_7.1 = x2 from c_8) hf
        exact j80_46_ok hd hf
      · replace hf := x_pos (show r_7.1 = x2 from Decidable.byContradiction (fun h9 => c_8 h9)) hf
        refine ev_do i80_42 rfl ?_
        refine sh_goto (t := 47) i80_43 rfl ?_
        exact j80_47_ok hd hf
end
section
def j106_23  (o0 : Option Nat) (x1 : Int32) (x2 : Int32) (x3 : Int32) (h : xH) : Option (Int32 × xH) := some (x3, h)
theorem j106_23_ok {xs : List Int32} {d : Nat} (hd : 2 ≤ d) {o0 : Option Nat} {x1 : Int32} {x2 : Int32} {x3 : Int32} {h : xH} {r : (Int32 × xH)} (hf : j106_23 o0 x1 x2 x3 h = some r) : xEv (xTa xs) d 106 (23, [xrv o0, .int x1, .int x2, .int x3], [], h) (some (.int r.1), r.2) := by
  unfold j106_23 at hf
  refine ev_do i106_23 rfl ?_
  obtain rfl := Option.some.inj hf
  exact sh_iret i106_24 m106 rfl rfl
def l106_2  : Nat → Option Nat → Int32 → Int32 → Int32 → xH → Option (Int32 × xH)
  | 0 => fun _ _ _ _ _ => none
  | n + 1 => fun o0 x1 x2 x3 h => (if x2 ≤ x3 then j106_23 o0 x1 x2 x3 h else (xcv h o0 9).bind fun _ => (fn96 o0 x3 h).bind fun r_2 => (if r_2.1 = 32 then l106_2 n o0 x1 x2 (x3 + 1) r_2.2 else j106_23 o0 x1 x2 x3 r_2.2))
theorem l106_2_ok {xs : List Int32} {d : Nat} (hd : 2 ≤ d) : ∀ (n : Nat) {o0 : Option Nat} {x1 : Int32} {x2 : Int32} {x3 : Int32} {h : xH} {r : (Int32 × xH)}, l106_2 n o0 x1 x2 x3 h = some r → xEv (xTa xs) d 106 (2, [xrv o0, .int x1, .int x2, .int x3], [], h) (some (.int r.1), r.2) := by
  intro n
  induction n with
  | zero => intros; rename_i hf; cases hf
  | succ n ih =>
    intro o0 x1 x2 x3 h r hf
    replace hf : ((if x2 ≤ x3 then j106_23 o0 x1 x2 x3 h else (xcv h o0 9).bind fun _ => (fn96 o0 x3 h).bind fun r_2 => (if r_2.1 = 32 then l106_2 n o0 x1 x2 (x3 + 1) r_2.2 else j106_23 o0 x1 x2 x3 r_2.2))) = some r := hf
    refine ev_do i106_2 rfl ?_
    refine ev_do i106_3 rfl ?_
    refine ev_icmp (t := 23) i106_4 rfl (fun c_1 => ?_) (fun c_1 => ?_)
    · replace hf := x_pos (show x2 ≤ x3 from c_1) hf
      exact j106_23_ok hd hf
    · replace hf := x_neg (show ¬ x2 ≤ x3 from c_1) hf
      refine sh_aload (i' := 0) (n := 1) i106_7 (Or.inr ⟨rfl, by decide⟩) rfl ?_
      refine ev_do i106_8 rfl ?_
      obtain ⟨_, eu_4, hf⟩ := x_bind hf
      obtain ⟨r_2, er_2, hf⟩ := x_bind hf
      refine sh_inv (as := [.int x3]) (z := (some (.int r_2.1), r_2.2)) i106_9 v106_39 (Or.inl ⟨by decide, rfl⟩) m96 rfl (Nat.le_of_ble_eq_true rfl) eu_4 (fn96_call (by omega) er_2) ?_
      refine ev_do i106_12 rfl ?_
      refine ev_icmp (t := 23) i106_14 rfl (fun c_3 => ?_) (fun c_3 => ?_)
      · replace hf := x_neg (show ¬ r_2.1 = 32 from c_3) hf
        exact j106_23_ok hd hf
      · replace hf := x_pos (show r_2.1 = 32 from Decidable.byContradiction (fun h9 => c_3 h9)) hf
        refine sh_inc (i' := 3) i106_17 rfl (xokst_of (Nat.le_of_ble_eq_true rfl) rfl) rfl ?_
        refine sh_goto (t := 2) i106_20 rfl ?_
        exact ih hf
def fn106 (o0 : Option Nat) (x1 : Int32) (x2 : Int32) (h : xH) : Option (Int32 × xH) := l106_2 xFuel o0 x1 x2 x1 h
theorem fn106_call {xs : List Int32} {d : Nat} (hd : 3 ≤ d) {o0 : Option Nat} {x1 : Int32} {x2 : Int32} {h : xH} {r : (Int32 × xH)} (hf : fn106 o0 x1 x2 h = some r) : xCall (xTa xs) d 106 [xrv o0, .int x1, .int x2] h (some (.int r.1), r.2) := by
  obtain ⟨d, rfl⟩ : ∃ d2, d = d2 + 1 := ⟨d - 1, by omega⟩
  replace hd : 2 ≤ d := by omega
  refine call_of2 (fl := [xrv o0, .int x1, .int x2]) (Ls := [xrv o0, .int x1, .int x2, .float 0]) m106 (by simp [xfl, xrv_cat, xc_i, xc_j, xc_a, xc_f]) (Nat.le_of_ble_eq_true rfl) rfl ?_
  unfold fn106 at hf
  refine ev_do i106_0 rfl ?_
  refine sh_istore (i' := 3) (n := 1) i106_1 (Or.inr ⟨rfl, by decide⟩) (xokst_of (Nat.le_of_ble_eq_true rfl) rfl) ?_
  exact l106_2_ok hd xFuel hf
end
section
def j136_17  (x0 : Int32) (s0 : Int32) (h : xH) : Option (Int32 × xH) := (if s0 &&& 1 = s0 then some (s0, h) else none)
theorem j136_17_ok {xs : List Int32} {d : Nat} (hd : 1 ≤ d) {x0 : Int32} {s0 : Int32} {h : xH} {r : (Int32 × xH)} (hf : j136_17 x0 s0 h = some r) : xEv (xTa xs) d 136 (17, [.int x0], [.int s0], h) (some (.int r.1), r.2) := by
  unfold j136_17 at hf
  by_cases c_1 : s0 &&& 1 = s0
  · replace hf := x_pos c_1 hf
    obtain rfl := Option.some.inj hf
    exact sh_iret i136_17 m136 rfl (congrArg Value.int c_1)
  · replace hf := x_neg c_1 hf
    cases hf
def j136_16  (x0 : Int32) (h : xH) : Option (Int32 × xH) := j136_17 x0 0 h
theorem j136_16_ok {xs : List Int32} {d : Nat} (hd : 1 ≤ d) {x0 : Int32} {h : xH} {r : (Int32 × xH)} (hf : j136_16 x0 h = some r) : xEv (xTa xs) d 136 (16, [.int x0], [], h) (some (.int r.1), r.2) := by
  unfold j136_16 at hf
  refine ev_do i136_16 rfl ?_
  exact j136_17_ok hd hf
def fn136 (x0 : Int32) (h : xH) : Option (Int32 × xH) := (if x0 < 48 then j136_16 x0 h else (if 57 < x0 then j136_16 x0 h else j136_17 x0 1 h))
theorem fn136_call {xs : List Int32} {d : Nat} (hd : 2 ≤ d) {x0 : Int32} {h : xH} {r : (Int32 × xH)} (hf : fn136 x0 h = some r) : xCall (xTa xs) d 136 [.int x0] h (some (.int r.1), r.2) := by
  obtain ⟨d, rfl⟩ : ∃ d2, d = d2 + 1 := ⟨d - 1, by omega⟩
  replace hd : 1 ≤ d := by omega
  refine call_of2 (fl := [.int x0]) (Ls := [.int x0]) m136 (by simp [xfl, xrv_cat, xc_i, xc_j, xc_a, xc_f]) (Nat.le_of_ble_eq_true rfl) rfl ?_
  unfold fn136 at hf
  refine ev_do i136_0 rfl ?_
  refine ev_do i136_1 rfl ?_
  refine ev_icmp (t := 16) i136_3 rfl (fun c_1 => ?_) (fun c_1 => ?_)
  · replace hf := x_pos (show x0 < 48 from c_1) hf
    exact j136_16_ok hd hf
  · replace hf := x_neg (show ¬ x0 < 48 from c_1) hf
    refine ev_do i136_6 rfl ?_
    refine ev_do i136_7 rfl ?_
    refine ev_icmp (t := 16) i136_9 rfl (fun c_2 => ?_) (fun c_2 => ?_)
    · replace hf := x_pos (show 57 < x0 from c_2) hf
      exact j136_16_ok hd hf
    · replace hf := x_neg (show ¬ 57 < x0 from c_2) hf
      refine ev_do i136_12 rfl ?_
      refine sh_goto (t := 17) i136_13 rfl ?_
      exact j136_17_ok hd hf
end
section
def j137_29  (x0 : Int32) (s0 : Int32) (h : xH) : Option (Int32 × xH) := (if s0 &&& 1 = s0 then some (s0, h) else none)
theorem j137_29_ok {xs : List Int32} {d : Nat} (hd : 1 ≤ d) {x0 : Int32} {s0 : Int32} {h : xH} {r : (Int32 × xH)} (hf : j137_29 x0 s0 h = some r) : xEv (xTa xs) d 137 (29, [.int x0], [.int s0], h) (some (.int r.1), r.2) := by
  unfold j137_29 at hf
  by_cases c_1 : s0 &&& 1 = s0
  · replace hf := x_pos c_1 hf
    obtain rfl := Option.some.inj hf
    exact sh_iret i137_29 m137 rfl (congrArg Value.int c_1)
  · replace hf := x_neg c_1 hf
    cases hf
def j137_28  (x0 : Int32) (h : xH) : Option (Int32 × xH) := j137_29 x0 0 h
theorem j137_28_ok {xs : List Int32} {d : Nat} (hd : 1 ≤ d) {x0 : Int32} {h : xH} {r : (Int32 × xH)} (hf : j137_28 x0 h = some r) : xEv (xTa xs) d 137 (28, [.int x0], [], h) (some (.int r.1), r.2) := by
  unfold j137_28 at hf
  refine ev_do i137_28 rfl ?_
  exact j137_29_ok hd hf
def j137_24  (x0 : Int32) (h : xH) : Option (Int32 × xH) := j137_29 x0 1 h
theorem j137_24_ok {xs : List Int32} {d : Nat} (hd : 1 ≤ d) {x0 : Int32} {h : xH} {r : (Int32 × xH)} (hf : j137_24 x0 h = some r) : xEv (xTa xs) d 137 (24, [.int x0], [], h) (some (.int r.1), r.2) := by
  unfold j137_24 at hf
  refine ev_do i137_24 rfl ?_
  refine sh_goto (t := 29) i137_25 rfl ?_
  exact j137_29_ok hd hf
def j137_12  (x0 : Int32) (h : xH) : Option (Int32 × xH) := (if x0 < 97 then j137_28 x0 h else (if 122 < x0 then j137_28 x0 h else j137_24 x0 h))
theorem j137_12_ok {xs : List Int32} {d : Nat} (hd : 1 ≤ d) {x0 : Int32} {h : xH} {r : (Int32 × xH)} (hf : j137_12 x0 h = some r) : xEv (xTa xs) d 137 (12, [.int x0], [], h) (some (.int r.1), r.2) := by
  unfold j137_12 at hf
  refine ev_do i137_12 rfl ?_
  refine ev_do i137_13 rfl ?_
  refine ev_icmp (t := 28) i137_15 rfl (fun c_1 => ?_) (fun c_1 => ?_)
  · replace hf := x_pos (show x0 < 97 from c_1) hf
    exact j137_28_ok hd hf
  · replace hf := x_neg (show ¬ x0 < 97 from c_1) hf
    refine ev_do i137_18 rfl ?_
    refine ev_do i137_19 rfl ?_
    refine ev_icmp (t := 28) i137_21 rfl (fun c_2 => ?_) (fun c_2 => ?_)
    · replace hf := x_pos (show 122 < x0 from c_2) hf
      exact j137_28_ok hd hf
    · replace hf := x_neg (show ¬ 122 < x0 from c_2) hf
      exact j137_24_ok hd hf
def fn137 (x0 : Int32) (h : xH) : Option (Int32 × xH) := (if x0 < 65 then j137_12 x0 h else (if x0 ≤ 90 then j137_24 x0 h else j137_12 x0 h))
theorem fn137_call {xs : List Int32} {d : Nat} (hd : 2 ≤ d) {x0 : Int32} {h : xH} {r : (Int32 × xH)} (hf : fn137 x0 h = some r) : xCall (xTa xs) d 137 [.int x0] h (some (.int r.1), r.2) := by
  obtain ⟨d, rfl⟩ : ∃ d2, d = d2 + 1 := ⟨d - 1, by omega⟩
  replace hd : 1 ≤ d := by omega
  refine call_of2 (fl := [.int x0]) (Ls := [.int x0]) m137 (by simp [xfl, xrv_cat, xc_i, xc_j, xc_a, xc_f]) (Nat.le_of_ble_eq_true rfl) rfl ?_
  unfold fn137 at hf
  refine ev_do i137_0 rfl ?_
  refine ev_do i137_1 rfl ?_
  refine ev_icmp (t := 12) i137_3 rfl (fun c_1 => ?_) (fun c_1 => ?_)
  · replace hf := x_pos (show x0 < 65 from c_1) hf
    exact j137_12_ok hd hf
  · replace hf := x_neg (show ¬ x0 < 65 from c_1) hf
    refine ev_do i137_6 rfl ?_
    refine ev_do i137_7 rfl ?_
    refine ev_icmp (t := 24) i137_9 rfl (fun c_2 => ?_) (fun c_2 => ?_)
    · replace hf := x_pos (show x0 ≤ 90 from c_2) hf
      exact j137_24_ok hd hf
    · replace hf := x_neg (show ¬ x0 ≤ 90 from c_2) hf
      exact j137_12_ok hd hf
end
section
def j107_68  (o0 : Option Nat) (x1 : Int32) (x2 : Int32) (x3 : Int32) (s0 : Int32) (h : xH) : Option (Int32 × xH) := (if s0 &&& 1 = s0 then some (s0, h) else none)
theorem j107_68_ok {xs : List Int32} {d : Nat} (hd : 2 ≤ d) {o0 : Option Nat} {x1 : Int32} {x2 : Int32} {x3 : Int32} {s0 : Int32} {h : xH} {r : (Int32 × xH)} (hf : j107_68 o0 x1 x2 x3 s0 h = some r) : xEv (xTa xs) d 107 (68, [xrv o0, .int x1, .int x2, .int x3], [.int s0], h) (some (.int r.1), r.2) := by
  unfold j107_68 at hf
  by_cases c_1 : s0 &&& 1 = s0
  · replace hf := x_pos c_1 hf
    obtain rfl := Option.some.inj hf
    exact sh_iret i107_68 m107 rfl (congrArg Value.int c_1)
  · replace hf := x_neg c_1 hf
    cases hf
def j107_52 (k23 : Option Nat → Int32 → Int32 → Int32 → xH → Option (Int32 × xH)) (o0 : Option Nat) (x1 : Int32) (x2 : Int32) (x3 : Int32) (h : xH) : Option (Int32 × xH) := k23 o0 x1 x2 (x3 + 1) h
theorem j107_52_ok {xs : List Int32} {d : Nat} (hd : 2 ≤ d) {k23 : Option Nat → Int32 → Int32 → Int32 → xH → Option (Int32 × xH)} (hk23 : ∀ {o0 : Option Nat} {x1 : Int32} {x2 : Int32} {x3 : Int32} {h : xH} {r : (Int32 × xH)}, k23 o0 x1 x2 x3 h = some r → xEv (xTa xs) d 107 (23, [xrv o0, .int x1, .int x2, .int x3], [], h) (some (.int r.1), r.2)) {o0 : Option Nat} {x1 : Int32} {x2 : Int32} {x3 : Int32} {h : xH} {r : (Int32 × xH)} (hf : j107_52 k23 o0 x1 x2 x3 h = some r) : xEv (xTa xs) d 107 (52, [xrv o0, .int x1, .int x2, .int x3], [], h) (some (.int r.1), r.2) := by
  unfold j107_52 at hf
  refine sh_inc (i' := 3) i107_52 rfl (xokst_of (Nat.le_of_ble_eq_true rfl) rfl) rfl ?_
  refine sh_goto (t := 23) i107_55 rfl ?_
  exact hk23 hf
def l107_23  : Nat → Option Nat → Int32 → Int32 → Int32 → xH → Option (Int32 × xH)
  | 0 => fun _ _ _ _ _ => none
  | n + 1 => fun o0 x1 x2 x3 h => (if x2 ≤ x3 then (if x2 ≤ x1 then j107_68 o0 x1 x2 x3 0 h else j107_68 o0 x1 x2 x3 1 h) else (xcv h o0 9).bind fun _ => (fn96 o0 x3 h).bind fun r_3 => (fn137 r_3.1 r_3.2).bind fun r_4 => (if r_4.1 = 0 then (xcv r_4.2 o0 9).bind fun _ => (fn96 o0 x3 r_4.2).bind fun r_6 => (fn136 r_6.1 r_6.2).bind fun r_7 => (if r_7.1 = 0 then some (0, r_7.2) else j107_52 (l107_23 n) o0 x1 x2 x3 r_7.2) else j107_52 (l107_23 n) o0 x1 x2 x3 r_4.2))
theorem l107_23_ok {xs : List Int32} {d : Nat} (hd : 2 ≤ d) : ∀ (n : Nat) {o0 : Option Nat} {x1 : Int32} {x2 : Int32} {x3 : Int32} {h : xH} {r : (Int32 × xH)}, l107_23 n o0 x1 x2 x3 h = some r → xEv (xTa xs) d 107 (23, [xrv o0, .int x1, .int x2, .int x3], [], h) (some (.int r.1), r.2) := by
  intro n
  induction n with
  | zero => intros; rename_i hf; cases hf
  | succ n ih =>
    intro o0 x1 x2 x3 h r hf
    replace hf : ((if x2 ≤ x3 then (if x2 ≤ x1 then j107_68 o0 x1 x2 x3 0 h else j107_68 o0 x1 x2 x3 1 h) else (xcv h o0 9).bind fun _ => (fn96 o0 x3 h).bind fun r_3 => (fn137 r_3.1 r_3.2).bind fun r_4 => (if r_4.1 = 0 then (xcv r_4.2 o0 9).bind fun _ => (fn96 o0 x3 r_4.2).bind fun r_6 => (fn136 r_6.1 r_6.2).bind fun r_7 => (if r_7.1 = 0 then some (0, r_7.2) else j107_52 (l107_23 n) o0 x1 x2 x3 r_7.2) else j107_52 (l107_23 n) o0 x1 x2 x3 r_4.2))) = some r := hf
    refine ev_do i107_23 rfl ?_
    refine ev_do i107_24 rfl ?_
    refine ev_icmp (t := 58) i107_25 rfl (fun c_1 => ?_) (fun c_1 => ?_)
    · replace hf := x_pos (show x2 ≤ x3 from c_1) hf
      refine ev_do i107_58 rfl ?_
      refine ev_do i107_59 rfl ?_
      refine ev_icmp (t := 67) i107_60 rfl (fun c_2 => ?_) (fun c_2 => ?_)
      · replace hf := x_pos (show x2 ≤ x1 from c_2) hf
        refine ev_do i107_67 rfl ?_
        exact j107_68_ok hd hf
      · replace hf := x_neg (show ¬ x2 ≤ x1 from c_2) hf
        refine ev_do i107_63 rfl ?_
        refine sh_goto (t := 68) i107_64 rfl ?_
        exact j107_68_ok hd hf
    · replace hf := x_neg (show ¬ x2 ≤ x3 from c_1) hf
      refine sh_aload (i' := 0) (n := 1) i107_28 (Or.inr ⟨rfl, by decide⟩) rfl ?_
      refine ev_do i107_29 rfl ?_
      obtain ⟨_, eu_10, hf⟩ := x_bind hf
      obtain ⟨r_3, er_3, hf⟩ := x_bind hf
      refine sh_inv (as := [.int x3]) (z := (some (.int r_3.1), r_3.2)) i107_30 v107_39 (Or.inl ⟨by decide, rfl⟩) m96 rfl (Nat.le_of_ble_eq_true rfl) eu_10 (fn96_call (by omega) er_3) ?_
      obtain ⟨r_4, er_4, hf⟩ := x_bind hf
      refine ev_sta (as := [.int r_3.1]) (z := (some (.int r_4.1), r_4.2)) i107_33 v107_47 (Or.inr rfl) m137 rfl (Nat.le_of_ble_eq_true rfl) (fn137_call (by omega) er_4) ?_
      refine ev_if (t := 52) i107_36 rfl (fun c_5 => ?_) (fun c_5 => ?_)
      · replace hf := x_neg (show ¬ r_4.1 = 0 from c_5) hf
        exact j107_52_ok hd ih hf
      · replace hf := x_pos (show r_4.1 = 0 from Decidable.byContradiction (fun h9 => c_5 h9)) hf
        refine sh_aload (i' := 0) (n := 1) i107_39 (Or.inr ⟨rfl, by decide⟩) rfl ?_
        refine ev_do i107_40 rfl ?_
        obtain ⟨_, eu_9, hf⟩ := x_bind hf
        obtain ⟨r_6, er_6, hf⟩ := x_bind hf
        refine sh_inv (as := [.int x3]) (z := (some (.int r_6.1), r_6.2)) i107_41 v107_39 (Or.inl ⟨by decide, rfl⟩) m96 rfl (Nat.le_of_ble_eq_true rfl) eu_9 (fn96_call (by omega) er_6) ?_
        obtain ⟨r_7, er_7, hf⟩ := x_bind hf
        refine ev_sta (as := [.int r_6.1]) (z := (some (.int r_7.1), r_7.2)) i107_44 v107_50 (Or.inr rfl) m136 rfl (Nat.le_of_ble_eq_true rfl) (fn136_call (by omega) er_7) ?_
        refine ev_if (t := 52) i107_47 rfl (fun c_8 => ?_) (fun c_8 => ?_)
        · replace hf := x_neg (show ¬ r_7.1 = 0 from c_8) hf
          exact j107_52_ok hd ih hf
        · replace hf := x_pos (show r_7.1 = 0 from Decidable.byContradiction (fun h9 => c_8 h9)) hf
          refine ev_do i107_50 rfl ?_
          obtain rfl := Option.some.inj hf
          exact sh_iret i107_51 m107 rfl (by decide)
def j107_19  (o0 : Option Nat) (x1 : Int32) (x2 : Int32) (h : xH) : Option (Int32 × xH) := some (0, h)
theorem j107_19_ok {xs : List Int32} {d : Nat} (hd : 2 ≤ d) {u3 : Value} {o0 : Option Nat} {x1 : Int32} {x2 : Int32} {h : xH} {r : (Int32 × xH)} (hu3 : u3.category = 1) (hf : j107_19 o0 x1 x2 h = some r) : xEv (xTa xs) d 107 (19, [xrv o0, .int x1, .int x2, u3], [], h) (some (.int r.1), r.2) := by
  unfold j107_19 at hf
  refine ev_do i107_19 rfl ?_
  obtain rfl := Option.some.inj hf
  exact sh_iret i107_20 m107 rfl (by decide)
def fn107 (o0 : Option Nat) (x1 : Int32) (x2 : Int32) (h : xH) : Option (Int32 × xH) := (if 10 < (x2 - x1) then j107_19 o0 x1 x2 h else (xcv h o0 9).bind fun _ => (fn96 o0 x1 h).bind fun r_2 => (fn137 r_2.1 r_2.2).bind fun r_3 => (if r_3.1 = 0 then j107_19 o0 x1 x2 r_3.2 else l107_23 xFuel o0 x1 x2 x1 r_3.2))
theorem fn107_call {xs : List Int32} {d : Nat} (hd : 3 ≤ d) {o0 : Option Nat} {x1 : Int32} {x2 : Int32} {h : xH} {r : (Int32 × xH)} (hf : fn107 o0 x1 x2 h = some r) : xCall (xTa xs) d 107 [xrv o0, .int x1, .int x2] h (some (.int r.1), r.2) := by
  obtain ⟨d, rfl⟩ : ∃ d2, d = d2 + 1 := ⟨d - 1, by omega⟩
  replace hd : 2 ≤ d := by omega
  refine call_of2 (fl := [xrv o0, .int x1, .int x2]) (Ls := [xrv o0, .int x1, .int x2, .float 0]) m107 (by simp [xfl, xrv_cat, xc_i, xc_j, xc_a, xc_f]) (Nat.le_of_ble_eq_true rfl) rfl ?_
  unfold fn107 at hf
  refine ev_do i107_0 rfl ?_
  refine ev_do i107_1 rfl ?_
  refine ev_do i107_2 rfl ?_
  refine ev_do i107_3 rfl ?_
  refine ev_icmp (t := 19) i107_5 rfl (fun c_1 => ?_) (fun c_1 => ?_)
  · replace hf := x_pos (show 10 < (x2 - x1) from c_1) hf
    exact j107_19_ok hd rfl hf
  · replace hf := x_neg (show ¬ 10 < (x2 - x1) from c_1) hf
    refine sh_aload (i' := 0) (n := 1) i107_8 (Or.inr ⟨rfl, by decide⟩) rfl ?_
    refine ev_do i107_9 rfl ?_
    obtain ⟨_, eu_5, hf⟩ := x_bind hf
    obtain ⟨r_2, er_2, hf⟩ := x_bind hf
    refine sh_inv (as := [.int x1]) (z := (some (.int r_2.1), r_2.2)) i107_10 v107_39 (Or.inl ⟨by decide, rfl⟩) m96 rfl (Nat.le_of_ble_eq_true rfl) eu_5 (fn96_call (by omega) er_2) ?_
    obtain ⟨r_3, er_3, hf⟩ := x_bind hf
    refine ev_sta (as := [.int r_2.1]) (z := (some (.int r_3.1), r_3.2)) i107_13 v107_47 (Or.inr rfl) m137 rfl (Nat.le_of_ble_eq_true rfl) (fn137_call (by omega) er_3) ?_
    refine ev_if (t := 21) i107_16 rfl (fun c_4 => ?_) (fun c_4 => ?_)
    · replace hf := x_neg (show ¬ r_3.1 = 0 from c_4) hf
      refine ev_do i107_21 rfl ?_
      refine sh_istore (i' := 3) (n := 1) i107_22 (Or.inr ⟨rfl, by decide⟩) (xokst_of (Nat.le_of_ble_eq_true rfl) rfl) ?_
      exact l107_23_ok hd xFuel hf
    · replace hf := x_pos (show r_3.1 = 0 from Decidable.byContradiction (fun h9 => c_4 h9)) hf
      exact j107_19_ok hd rfl hf
end
section
def j109_39  (o0 : Option Nat) (x1 : Int32) (x2 : Int32) (x3 : Int32) (s0 : Int32) (h : xH) : Option (Int32 × xH) := (if s0 &&& 1 = s0 then some (s0, h) else none)
theorem j109_39_ok {xs : List Int32} {d : Nat} (hd : 3 ≤ d) {o0 : Option Nat} {x1 : Int32} {x2 : Int32} {x3 : Int32} {s0 : Int32} {h : xH} {r : (Int32 × xH)} (hf : j109_39 o0 x1 x2 x3 s0 h = some r) : xEv (xTa xs) d 109 (39, [xrv o0, .int x1, .int x2, .int x3], [.int s0], h) (some (.int r.1), r.2) := by
  unfold j109_39 at hf
  by_cases c_1 : s0 &&& 1 = s0
  · replace hf := x_pos c_1 hf
    obtain rfl := Option.some.inj hf
    exact sh_iret i109_39 m109 rfl (congrArg Value.int c_1)
  · replace hf := x_neg c_1 hf
    cases hf
def j109_38  (o0 : Option Nat) (x1 : Int32) (x2 : Int32) (x3 : Int32) (h : xH) : Option (Int32 × xH) := j109_39 o0 x1 x2 x3 0 h
theorem j109_38_ok {xs : List Int32} {d : Nat} (hd : 3 ≤ d) {o0 : Option Nat} {x1 : Int32} {x2 : Int32} {x3 : Int32} {h : xH} {r : (Int32 × xH)} (hf : j109_38 o0 x1 x2 x3 h = some r) : xEv (xTa xs) d 109 (38, [xrv o0, .int x1, .int x2, .int x3], [], h) (some (.int r.1), r.2) := by
  unfold j109_38 at hf
  refine ev_do i109_38 rfl ?_
  exact j109_39_ok hd hf
def j109_34  (o0 : Option Nat) (x1 : Int32) (x2 : Int32) (x3 : Int32) (h : xH) : Option (Int32 × xH) := j109_39 o0 x1 x2 x3 1 h
theorem j109_34_ok {xs : List Int32} {d : Nat} (hd : 3 ≤ d) {o0 : Option Nat} {x1 : Int32} {x2 : Int32} {x3 : Int32} {h : xH} {r : (Int32 × xH)} (hf : j109_34 o0 x1 x2 x3 h = some r) : xEv (xTa xs) d 109 (34, [xrv o0, .int x1, .int x2, .int x3], [], h) (some (.int r.1), r.2) := by
  unfold j109_34 at hf
  refine ev_do i109_34 rfl ?_
  refine sh_goto (t := 39) i109_35 rfl ?_
  exact j109_39_ok hd hf
def fn109 (o0 : Option Nat) (x1 : Int32) (x2 : Int32) (h : xH) : Option (Int32 × xH) := (xcv h o0 9).bind fun _ => (fn105 o0 46 x1 x2 h).bind fun r_1 => (xcv r_1.2 o0 9).bind fun _ => (fn107 o0 x1 r_1.1 r_1.2).bind fun r_2 => (if r_2.1 = 0 then j109_38 o0 x1 x2 r_1.1 r_2.2 else (if r_1.1 = x2 then j109_34 o0 x1 x2 r_1.1 r_2.2 else (xcv r_2.2 o0 9).bind fun _ => (fn107 o0 (r_1.1 + 1) x2 r_2.2).bind fun r_5 => (if r_5.1 = 0 then j109_38 o0 x1 x2 r_1.1 r_5.2 else j109_34 o0 x1 x2 r_1.1 r_5.2)))
theorem fn109_call {xs : List Int32} {d : Nat} (hd : 4 ≤ d) {o0 : Option Nat} {x1 : Int32} {x2 : Int32} {h : xH} {r : (Int32 × xH)} (hf : fn109 o0 x1 x2 h = some r) : xCall (xTa xs) d 109 [xrv o0, .int x1, .int x2] h (some (.int r.1), r.2) := by
  obtain ⟨d, rfl⟩ : ∃ d2, d = d2 + 1 := ⟨d - 1, by omega⟩
  replace hd : 3 ≤ d := by omega
  refine call_of2 (fl := [xrv o0, .int x1, .int x2]) (Ls := [xrv o0, .int x1, .int x2, .float 0]) m109 (by simp [xfl, xrv_cat, xc_i, xc_j, xc_a, xc_f]) (Nat.le_of_ble_eq_true rfl) rfl ?_
  unfold fn109 at hf
  refine sh_aload (i' := 0) (n := 1) i109_0 (Or.inr ⟨rfl, by decide⟩) rfl ?_
  refine ev_do i109_1 rfl ?_
  refine ev_do i109_3 rfl ?_
  refine ev_do i109_4 rfl ?_
  obtain ⟨_, eu_9, hf⟩ := x_bind hf
  obtain ⟨r_1, er_1, hf⟩ := x_bind hf
  refine sh_inv (as := [.int x2, .int x1, .int 46]) (z := (some (.int r_1.1), r_1.2)) i109_5 v109_61 (Or.inl ⟨by decide, rfl⟩) m105 rfl (Nat.le_of_ble_eq_true rfl) eu_9 (fn105_call (by omega) er_1) ?_
  refine sh_istore (i' := 3) (n := 1) i109_8 (Or.inr ⟨rfl, by decide⟩) (xokst_of (Nat.le_of_ble_eq_true rfl) rfl) ?_
  refine sh_aload (i' := 0) (n := 1) i109_9 (Or.inr ⟨rfl, by decide⟩) rfl ?_
  refine ev_do i109_10 rfl ?_
  refine ev_do i109_11 rfl ?_
  obtain ⟨_, eu_8, hf⟩ := x_bind hf
  obtain ⟨r_2, er_2, hf⟩ := x_bind hf
  refine sh_inv (as := [.int r_1.1, .int x1]) (z := (some (.int r_2.1), r_2.2)) i109_12 v109_53 (Or.inl ⟨by decide, rfl⟩) m107 rfl (Nat.le_of_ble_eq_true rfl) eu_8 (fn107_call (by omega) er_2) ?_
  refine ev_if (t := 38) i109_15 rfl (fun c_3 => ?_) (fun c_3 => ?_)
  · replace hf := x_pos (show r_2.1 = 0 from c_3) hf
    exact j109_38_ok hd hf
  · replace hf := x_neg (show ¬ r_2.1 = 0 from c_3) hf
    refine ev_do i109_18 rfl ?_
    refine ev_do i109_19 rfl ?_
    refine ev_icmp (t := 34) i109_20 rfl (fun c_4 => ?_) (fun c_4 => ?_)
    · replace hf := x_pos (show r_1.1 = x2 from c_4) hf
      exact j109_34_ok hd hf
    · replace hf := x_neg (show ¬ r_1.1 = x2 from c_4) hf
      refine sh_aload (i' := 0) (n := 1) i109_23 (Or.inr ⟨rfl, by decide⟩) rfl ?_
      refine ev_do i109_24 rfl ?_
      refine ev_do i109_25 rfl ?_
      refine ev_do i109_26 rfl ?_
      refine ev_do i109_27 rfl ?_
      obtain ⟨_, eu_7, hf⟩ := x_bind hf
      obtain ⟨r_5, er_5, hf⟩ := x_bind hf
      refine sh_inv (as := [.int x2, .int (r_1.1 + 1)]) (z := (some (.int r_5.1), r_5.2)) i109_28 v109_53 (Or.inl ⟨by decide, rfl⟩) m107 rfl (Nat.le_of_ble_eq_true rfl) eu_7 (fn107_call (by omega) er_5) ?_
      refine ev_if (t := 38) i109_31 rfl (fun c_6 => ?_) (fun c_6 => ?_)
      · replace hf := x_pos (show r_5.1 = 0 from c_6) hf
        exact j109_38_ok hd hf
      · replace hf := x_neg (show ¬ r_5.1 = 0 from c_6) hf
        exact j109_34_ok hd hf
end
