section
def j21_65 (k19 : Option Nat → Option Nat → Option Nat → Int32 → xH → Option xH) (k28 : Option Nat → Option Nat → Option Nat → Int32 → Int32 → xH → Option xH) (o0 : Option Nat) (o1 : Option Nat) (o2 : Option Nat) (x3 : Int32) (x4 : Int32) (o5 : Option Nat) (h : xH) : Option xH := k28 o0 o1 o2 x3 (x4 + 1) h
theorem j21_65_ok {xs : List Int32} {d : Nat} (hd : 2 ≤ d) {k19 : Option Nat → Option Nat → Option Nat → Int32 → xH → Option xH} {k28 : Option Nat → Option Nat → Option Nat → Int32 → Int32 → xH → Option xH} (hk19 : ∀ {u4 : Value} {u5 : Value} {o0 : Option Nat} {o1 : Option Nat} {o2 : Option Nat} {x3 : Int32} {h : xH} {r : xH}, u4.category = 1 → u5.category = 1 → k19 o0 o1 o2 x3 h = some r → xEv (xTa xs) d 21 (19, [xrv o0, xrv o1, xrv o2, .int x3, u4, u5], [], h) (none, r)) (hk28 : ∀ {u5 : Value} {o0 : Option Nat} {o1 : Option Nat} {o2 : Option Nat} {x3 : Int32} {x4 : Int32} {h : xH} {r : xH}, u5.category = 1 → k28 o0 o1 o2 x3 x4 h = some r → xEv (xTa xs) d 21 (28, [xrv o0, xrv o1, xrv o2, .int x3, .int x4, u5], [], h) (none, r)) {o0 : Option Nat} {o1 : Option Nat} {o2 : Option Nat} {x3 : Int32} {x4 : Int32} {o5 : Option Nat} {h : xH} {r : xH} (hf : j21_65 k19 k28 o0 o1 o2 x3 x4 o5 h = some r) : xEv (xTa xs) d 21 (65, [xrv o0, xrv o1, xrv o2, .int x3, .int x4, xrv o5], [], h) (none, r) := by
  unfold j21_65 at hf
  refine sh_inc (i' := 4) i21_65 rfl (xokst_of (Nat.le_of_ble_eq_true rfl) rfl) rfl ?_
  refine sh_goto (t := 28) i21_68 rfl ?_
  exact hk28 (xrv_cat (o5)) hf
def l21_28 (k19 : Option Nat → Option Nat → Option Nat → Int32 → xH → Option xH) : Nat → Option Nat → Option Nat → Option Nat → Int32 → Int32 → xH → Option xH
  | 0 => fun _ _ _ _ _ _ => none
  | n + 1 => fun o0 o1 o2 x3 x4 h => (xgI h o2 1 3).bind fun v_1 => (if v_1 ≤ x4 then k19 o0 o1 o2 (x3 + 1) h else (xcv h o2 1).bind fun _ => (fn5 o2 x4 h).bind fun r_3 => (if r_3.1 = none then j21_65 k19 (l21_28 k19 n) o0 o1 o2 x3 x4 r_3.1 r_3.2 else (xgI r_3.2 r_3.1 0 1).bind fun v_5 => (if v_5 = x3 then (xcv r_3.2 o0 3).bind fun _ => (fn22 o0 r_3.1 r_3.2).bind fun h_7 => j21_65 k19 (l21_28 k19 n) o0 o1 o2 x3 x4 r_3.1 h_7 else j21_65 k19 (l21_28 k19 n) o0 o1 o2 x3 x4 r_3.1 r_3.2)))
theorem l21_28_ok {xs : List Int32} {d : Nat} (hd : 2 ≤ d) {k19 : Option Nat → Option Nat → Option Nat → Int32 → xH → Option xH} (hk19 : ∀ {u4 : Value} {u5 : Value} {o0 : Option Nat} {o1 : Option Nat} {o2 : Option Nat} {x3 : Int32} {h : xH} {r : xH}, u4.category = 1 → u5.category = 1 → k19 o0 o1 o2 x3 h = some r → xEv (xTa xs) d 21 (19, [xrv o0, xrv o1, xrv o2, .int x3, u4, u5], [], h) (none, r)) : ∀ (n : Nat) {u5 : Value} {o0 : Option Nat} {o1 : Option Nat} {o2 : Option Nat} {x3 : Int32} {x4 : Int32} {h : xH} {r : xH} (hu5 : u5.category = 1), l21_28 k19 n o0 o1 o2 x3 x4 h = some r → xEv (xTa xs) d 21 (28, [xrv o0, xrv o1, xrv o2, .int x3, .int x4, u5], [], h) (none, r) := by
  intro n
  induction n with
  | zero => intros; rename_i hf; cases hf
  | succ n ih =>
    intro u5 o0 o1 o2 x3 x4 h r hu5 hf
    replace hf : ((xgI h o2 1 3).bind fun v_1 => (if v_1 ≤ x4 then k19 o0 o1 o2 (x3 + 1) h else (xcv h o2 1).bind fun _ => (fn5 o2 x4 h).bind fun r_3 => (if r_3.1 = none then j21_65 k19 (l21_28 k19 n) o0 o1 o2 x3 x4 r_3.1 r_3.2 else (xgI r_3.2 r_3.1 0 1).bind fun v_5 => (if v_5 = x3 then (xcv r_3.2 o0 3).bind fun _ => (fn22 o0 r_3.1 r_3.2).bind fun h_7 => j21_65 k19 (l21_28 k19 n) o0 o1 o2 x3 x4 r_3.1 h_7 else j21_65 k19 (l21_28 k19 n) o0 o1 o2 x3 x4 r_3.1 r_3.2)))) = some r := hf
    refine ev_do i21_28 rfl ?_
    refine sh_aload (i' := 2) (n := 1) i21_30 (Or.inr ⟨rfl, by decide⟩) rfl ?_
    obtain ⟨v_1, ev_1, hf⟩ := x_bind hf
    refine sh_getI i21_31 f21_46 ev_1 ?_
    refine ev_icmp (t := 71) i21_34 rfl (fun c_2 => ?_) (fun c_2 => ?_)
    · replace hf := x_pos (show v_1 ≤ x4 from c_2) hf
      refine sh_inc (i' := 3) i21_71 rfl (xokst_of (Nat.le_of_ble_eq_true rfl) (xrv_cat (o2))) rfl ?_
      refine sh_goto (t := 19) i21_74 rfl ?_
      exact hk19 rfl hu5 hf
    · replace hf := x_neg (show ¬ v_1 ≤ x4 from c_2) hf
      refine sh_aload (i' := 2) (n := 1) i21_37 (Or.inr ⟨rfl, by decide⟩) rfl ?_
      refine ev_do i21_38 rfl ?_
      obtain ⟨_, eu_9, hf⟩ := x_bind hf
      obtain ⟨r_3, er_3, hf⟩ := x_bind hf
      refine sh_inv (as := [.int x4]) (z := (some (xrv r_3.1), r_3.2)) i21_40 v21_51 (Or.inl ⟨by decide, rfl⟩) m5 rfl (Nat.le_of_ble_eq_true rfl) eu_9 (fn5_call (by omega) er_3) ?_
      refine sh_astore (i' := 5) (n := 2) i21_43 (Or.inl rfl) (xokst_of (Nat.le_of_ble_eq_true rfl) rfl) ?_
      refine sh_aload (i' := 5) (n := 2) i21_45 (Or.inl rfl) rfl ?_
      refine sh_null (t := 65) i21_47 rfl (fun c_4 => ?_) (fun c_4 => ?_)
      · replace hf := x_pos c_4 hf
        exact j21_65_ok hd hk19 ih hf
      · replace hf := x_neg c_4 hf
        refine sh_aload (i' := 5) (n := 2) i21_50 (Or.inl rfl) rfl ?_
        obtain ⟨v_5, ev_5, hf⟩ := x_bind hf
        refine sh_getI i21_52 f21_55 ev_5 ?_
        refine ev_do i21_55 rfl ?_
        refine ev_icmp (t := 65) i21_56 rfl (fun c_6 => ?_) (fun c_6 => ?_)
        · replace hf := x_neg (show ¬ v_5 = x3 from c_6) hf
          exact j21_65_ok hd hk19 ih hf
        · replace hf := x_pos (show v_5 = x3 from Decidable.byContradiction (fun h9 => c_6 h9)) hf
          refine sh_aload (i' := 0) (n := 1) i21_59 (Or.inr ⟨rfl, by decide⟩) rfl ?_
          refine sh_aload (i' := 5) (n := 2) i21_60 (Or.inl rfl) rfl ?_
          obtain ⟨_, eu_8, hf⟩ := x_bind hf
          obtain ⟨h_7, eh_7, hf⟩ := x_bind hf
          refine sh_inv (as := [xrv r_3.1]) (z := (none, h_7)) i21_62 v21_72 (Or.inl ⟨by decide, rfl⟩) m22 rfl (Nat.le_of_ble_eq_true rfl) eu_8 (fn22_call (by omega) eh_7) ?_
          exact j21_65_ok hd hk19 ih hf
def l21_19  : Nat → Option Nat → Option Nat → Option Nat → Int32 → xH → Option xH
  | 0 => fun _ _ _ _ _ => none
  | n + 1 => fun o0 o1 o2 x3 h => (if 6 < x3 then some h else l21_28 (l21_19 n) xFuel o0 o1 o2 x3 0 h)
theorem l21_19_ok {xs : List Int32} {d : Nat} (hd : 2 ≤ d) : ∀ (n : Nat) {u4 : Value} {u5 : Value} {o0 : Option Nat} {o1 : Option Nat} {o2 : Option Nat} {x3 : Int32} {h : xH} {r : xH} (hu4 : u4.category = 1) (hu5 : u5.category = 1), l21_19 n o0 o1 o2 x3 h = some r → xEv (xTa xs) d 21 (19, [xrv o0, xrv o1, xrv o2, .int x3, u4, u5], [], h) (none, r) := by
  intro n
  induction n with
  | zero => intros; rename_i hf; cases hf
  | succ n ih =>
    intro u4 u5 o0 o1 o2 x3 h r hu4 hu5 hf
    replace hf : ((if 6 < x3 then some h else l21_28 (l21_19 n) xFuel o0 o1 o2 x3 0 h)) = some r := hf
    refine ev_do i21_19 rfl ?_
    refine ev_do i21_20 rfl ?_
    refine ev_icmp (t := 77) i21_22 rfl (fun c_1 => ?_) (fun c_1 => ?_)
    · replace hf := x_pos (show 6 < x3 from c_1) hf
      obtain rfl := Option.some.inj hf
      exact sh_vret i21_77 m21 rfl
    · replace hf := x_neg (show ¬ 6 < x3 from c_1) hf
      refine ev_do i21_25 rfl ?_
      refine sh_istore (i' := 4) (n := 2) i21_26 (Or.inl rfl) (xokst_of (Nat.le_of_ble_eq_true rfl) rfl) ?_
      exact l21_28_ok hd ih xFuel hu5 hf
def j21_11  (o0 : Option Nat) (o1 : Option Nat) (h : xH) : Option xH := some h
theorem j21_11_ok {xs : List Int32} {d : Nat} (hd : 2 ≤ d) {u2 : Value} {u3 : Value} {u4 : Value} {u5 : Value} {o0 : Option Nat} {o1 : Option Nat} {h : xH} {r : xH} (hu2 : u2.category = 1) (hu3 : u3.category = 1) (hu4 : u4.category = 1) (hu5 : u5.category = 1) (hf : j21_11 o0 o1 h = some r) : xEv (xTa xs) d 21 (11, [xrv o0, xrv o1, u2, u3, u4, u5], [], h) (none, r) := by
  unfold j21_11 at hf
  obtain rfl := Option.some.inj hf
  exact sh_vret i21_11 m21 rfl
def fn21 (o0 : Option Nat) (o1 : Option Nat) (h : xH) : Option xH := (if o1 = none then j21_11 o0 o1 h else (xgR h o1 2 7).bind fun a_2 => (if a_2 = none then j21_11 o0 o1 h else (xgR h o1 2 7).bind fun a_4 => l21_19 xFuel o0 o1 a_4 2 h))
theorem fn21_call {xs : List Int32} {d : Nat} (hd : 3 ≤ d) {o0 : Option Nat} {o1 : Option Nat} {h : xH} {r : xH} (hf : fn21 o0 o1 h = some r) : xCall (xTa xs) d 21 [xrv o0, xrv o1] h (none, r) := by
  obtain ⟨d, rfl⟩ : ∃ d2, d = d2 + 1 := ⟨d - 1, by omega⟩
  replace hd : 2 ≤ d := by omega
  refine call_of2 (fl := [xrv o0, xrv o1]) (Ls := [xrv o0, xrv o1, .float 0, .float 0, .float 0, .float 0]) m21 (by simp [xfl, xrv_cat, xc_i, xc_j, xc_a, xc_f]) (Nat.le_of_ble_eq_true rfl) rfl ?_
  unfold fn21 at hf
  refine sh_aload (i' := 1) (n := 1) i21_0 (Or.inr ⟨rfl, by decide⟩) rfl ?_
  refine sh_null (t := 11) i21_1 rfl (fun c_1 => ?_) (fun c_1 => ?_)
  · replace hf := x_pos c_1 hf
    exact j21_11_ok hd rfl rfl rfl rfl hf
  · replace hf := x_neg c_1 hf
    refine sh_aload (i' := 1) (n := 1) i21_4 (Or.inr ⟨rfl, by decide⟩) rfl ?_
    obtain ⟨a_2, ea_2, hf⟩ := x_bind hf
    refine sh_getR i21_5 f21_40 ea_2 ?_
    refine sh_nnul (t := 12) i21_8 rfl (fun c_3 => ?_) (fun c_3 => ?_)
    · replace hf := x_pos c_3 hf
      exact j21_11_ok hd rfl rfl rfl rfl hf
    · replace hf := x_neg c_3 hf
      refine sh_aload (i' := 1) (n := 1) i21_12 (Or.inr ⟨rfl, by decide⟩) rfl ?_
      obtain ⟨a_4, ea_4, hf⟩ := x_bind hf
      refine sh_getR i21_13 f21_40 ea_4 ?_
      refine sh_astore (i' := 2) (n := 1) i21_16 (Or.inr ⟨rfl, by decide⟩) (xokst_of (Nat.le_of_ble_eq_true rfl) (xrv_cat (o1))) ?_
      refine ev_do i21_17 rfl ?_
      refine sh_istore (i' := 3) (n := 1) i21_18 (Or.inr ⟨rfl, by decide⟩) (xokst_of (Nat.le_of_ble_eq_true rfl) (xrv_cat (a_4))) ?_
      exact l21_19_ok hd xFuel rfl rfl hf
end
section
def fn87 (o0 : Option Nat) (o1 : Option Nat) (x2 : Int32) (x3 : Int32) (h : xH) : Option (Option Nat × xH) := (xcv h o0 8).bind fun _ => (fn88 o0 none o1 x2 x3 h).bind fun r_1 => some (r_1.1, r_1.2)
theorem fn87_call {xs : List Int32} {d : Nat} (hd : 4 ≤ d) {o0 : Option Nat} {o1 : Option Nat} {x2 : Int32} {x3 : Int32} {h : xH} {r : (Option Nat × xH)} (hf : fn87 o0 o1 x2 x3 h = some r) : xCall (xTa xs) d 87 [xrv o0, xrv o1, .int x2, .int x3] h (some (xrv r.1), r.2) := by
  obtain ⟨d, rfl⟩ : ∃ d2, d = d2 + 1 := ⟨d - 1, by omega⟩
  replace hd : 3 ≤ d := by omega
  refine call_of2 (fl := [xrv o0, xrv o1, .int x2, .int x3]) (Ls := [xrv o0, xrv o1, .int x2, .int x3]) m87 (by simp [xfl, xrv_cat, xc_i, xc_j, xc_a, xc_f]) (Nat.le_of_ble_eq_true rfl) rfl ?_
  unfold fn87 at hf
  refine sh_aload (i' := 0) (n := 1) i87_0 (Or.inr ⟨rfl, by decide⟩) rfl ?_
  refine sh_cnull i87_1 ?_
  refine sh_aload (i' := 1) (n := 1) i87_2 (Or.inr ⟨rfl, by decide⟩) rfl ?_
  refine ev_do i87_3 rfl ?_
  refine ev_do i87_4 rfl ?_
  obtain ⟨_, eu_2, hf⟩ := x_bind hf
  obtain ⟨r_1, er_1, hf⟩ := x_bind hf
  refine sh_inv (as := [.int x3, .int x2, xrv o1, xrv none]) (z := (some (xrv r_1.1), r_1.2)) i87_5 v87_52 (Or.inl ⟨by decide, rfl⟩) m88 rfl (Nat.le_of_ble_eq_true rfl) eu_2 (fn88_call (by omega) er_1) ?_
  obtain rfl := Option.some.inj hf
  exact sh_aret i87_8 m87 rfl
end
section
def j105_25  (o0 : Option Nat) (x1 : Int32) (x2 : Int32) (x3 : Int32) (x4 : Int32) (h : xH) : Option (Int32 × xH) := some (x4, h)
theorem j105_25_ok {xs : List Int32} {d : Nat} (hd : 2 ≤ d) {o0 : Option Nat} {x1 : Int32} {x2 : Int32} {x3 : Int32} {x4 : Int32} {h : xH} {r : (Int32 × xH)} (hf : j105_25 o0 x1 x2 x3 x4 h = some r) : xEv (xTa xs) d 105 (25, [xrv o0, .int x1, .int x2, .int x3, .int x4], [], h) (some (.int r.1), r.2) := by
  unfold j105_25 at hf
  refine ev_do i105_25 rfl ?_
  obtain rfl := Option.some.inj hf
  exact sh_iret i105_27 m105 rfl rfl
def l105_3  : Nat → Option Nat → Int32 → Int32 → Int32 → Int32 → xH → Option (Int32 × xH)
  | 0 => fun _ _ _ _ _ _ => none
  | n + 1 => fun o0 x1 x2 x3 x4 h => (if x3 ≤ x4 then j105_25 o0 x1 x2 x3 x4 h else (xcv h o0 9).bind fun _ => (fn96 o0 x4 h).bind fun r_2 => (if r_2.1 = x1 then j105_25 o0 x1 x2 x3 x4 r_2.2 else l105_3 n o0 x1 x2 x3 (x4 + 1) r_2.2))
theorem l105_3_ok {xs : List Int32} {d : Nat} (hd : 2 ≤ d) : ∀ (n : Nat) {o0 : Option Nat} {x1 : Int32} {x2 : Int32} {x3 : Int32} {x4 : Int32} {h : xH} {r : (Int32 × xH)}, l105_3 n o0 x1 x2 x3 x4 h = some r → xEv (xTa xs) d 105 (3, [xrv o0, .int x1, .int x2, .int x3, .int x4], [], h) (some (.int r.1), r.2) := by
  intro n
  induction n with
  | zero => intros; rename_i hf; cases hf
  | succ n ih =>
    intro o0 x1 x2 x3 x4 h r hf
    replace hf : ((if x3 ≤ x4 then j105_25 o0 x1 x2 x3 x4 h else (xcv h o0 9).bind fun _ => (fn96 o0 x4 h).bind fun r_2 => (if r_2.1 = x1 then j105_25 o0 x1 x2 x3 x4 r_2.2 else l105_3 n o0 x1 x2 x3 (x4 + 1) r_2.2))) = some r := hf
    refine ev_do i105_3 rfl ?_
    refine ev_do i105_5 rfl ?_
    refine ev_icmp (t := 25) i105_6 rfl (fun c_1 => ?_) (fun c_1 => ?_)
    · replace hf := x_pos (show x3 ≤ x4 from c_1) hf
      exact j105_25_ok hd hf
    · replace hf := x_neg (show ¬ x3 ≤ x4 from c_1) hf
      refine sh_aload (i' := 0) (n := 1) i105_9 (Or.inr ⟨rfl, by decide⟩) rfl ?_
      refine ev_do i105_10 rfl ?_
      obtain ⟨_, eu_4, hf⟩ := x_bind hf
      obtain ⟨r_2, er_2, hf⟩ := x_bind hf
      refine sh_inv (as := [.int x4]) (z := (some (.int r_2.1), r_2.2)) i105_12 v105_39 (Or.inl ⟨by decide, rfl⟩) m96 rfl (Nat.le_of_ble_eq_true rfl) eu_4 (fn96_call (by omega) er_2) ?_
      refine ev_do i105_15 rfl ?_
      refine ev_icmp (t := 25) i105_16 rfl (fun c_3 => ?_) (fun c_3 => ?_)
      · replace hf := x_pos (show r_2.1 = x1 from c_3) hf
        exact j105_25_ok hd hf
      · replace hf := x_neg (show ¬ r_2.1 = x1 from c_3) hf
        refine sh_inc (i' := 4) i105_19 rfl (xokst_of (Nat.le_of_ble_eq_true rfl) rfl) rfl ?_
        refine sh_goto (t := 3) i105_22 rfl ?_
        exact ih hf
def fn105 (o0 : Option Nat) (x1 : Int32) (x2 : Int32) (x3 : Int32) (h : xH) : Option (Int32 × xH) := l105_3 xFuel o0 x1 x2 x3 x2 h
theorem fn105_call {xs : List Int32} {d : Nat} (hd : 3 ≤ d) {o0 : Option Nat} {x1 : Int32} {x2 : Int32} {x3 : Int32} {h : xH} {r : (Int32 × xH)} (hf : fn105 o0 x1 x2 x3 h = some r) : xCall (xTa xs) d 105 [xrv o0, .int x1, .int x2, .int x3] h (some (.int r.1), r.2) := by
  obtain ⟨d, rfl⟩ : ∃ d2, d = d2 + 1 := ⟨d - 1, by omega⟩
  replace hd : 2 ≤ d := by omega
  refine call_of2 (fl := [xrv o0, .int x1, .int x2, .int x3]) (Ls := [xrv o0, .int x1, .int x2, .int x3, .float 0]) m105 (by simp [xfl, xrv_cat, xc_i, xc_j, xc_a, xc_f]) (Nat.le_of_ble_eq_true rfl) rfl ?_
  unfold fn105 at hf
  refine ev_do i105_0 rfl ?_
  refine sh_istore (i' := 4) (n := 2) i105_1 (Or.inl rfl) (xokst_of (Nat.le_of_ble_eq_true rfl) rfl) ?_
  exact l105_3_ok hd xFuel hf
end
section
def j135_15  (x0 : Int32) (x1 : Int32) (x2 : Int32) (s0 : Int32) (h : xH) : Option (Int32 × xH) := (if s0 &&& 1 = s0 then some (s0, h) else none)
theorem j135_15_ok {xs : List Int32} {d : Nat} (hd : 1 ≤ d) {x0 : Int32} {x1 : Int32} {x2 : Int32} {s0 : Int32} {h : xH} {r : (Int32 × xH)} (hf : j135_15 x0 x1 x2 s0 h = some r) : xEv (xTa xs) d 135 (15, [.int x0, .int x1, .int x2], [.int s0], h) (some (.int r.1), r.2) := by
  unfold j135_15 at hf
  by_cases c_1 : s0 &&& 1 = s0
  · replace hf := x_pos c_1 hf
    obtain rfl := Option.some.inj hf
    exact sh_iret i135_15 m135 rfl (congrArg Value.int c_1)
  · replace hf := x_neg c_1 hf
    cases hf
def j135_14  (x0 : Int32) (x1 : Int32) (x2 : Int32) (h : xH) : Option (Int32 × xH) := j135_15 x0 x1 x2 0 h
theorem j135_14_ok {xs : List Int32} {d : Nat} (hd : 1 ≤ d) {x0 : Int32} {x1 : Int32} {x2 : Int32} {h : xH} {r : (Int32 × xH)} (hf : j135_14 x0 x1 x2 h = some r) : xEv (xTa xs) d 135 (14, [.int x0, .int x1, .int x2], [], h) (some (.int r.1), r.2) := by
  unfold j135_14 at hf
  refine ev_do i135_14 rfl ?_
  exact j135_15_ok hd hf
def fn135 (x0 : Int32) (x1 : Int32) (x2 : Int32) (h : xH) : Option (Int32 × xH) := (if x0 < x1 then j135_14 x0 x1 x2 h else (if x2 < x0 then j135_14 x0 x1 x2 h else j135_15 x0 x1 x2 1 h))
theorem fn135_call {xs : List Int32} {d : Nat} (hd : 2 ≤ d) {x0 : Int32} {x1 : Int32} {x2 : Int32} {h : xH} {r : (Int32 × xH)} (hf : fn135 x0 x1 x2 h = some r) : xCall (xTa xs) d 135 [.int x0, .int x1, .int x2] h (some (.int r.1), r.2) := by
  obtain ⟨d, rfl⟩ : ∃ d2, d = d2 + 1 := ⟨d - 1, by omega⟩
  replace hd : 1 ≤ d := by omega
  refine call_of2 (fl := [.int x0, .int x1, .int x2]) (Ls := [.int x0, .int x1, .int x2]) m135 (by simp [xfl, xrv_cat, xc_i, xc_j, xc_a, xc_f]) (Nat.le_of_ble_eq_true rfl) rfl ?_
  unfold fn135 at hf
  refine ev_do i135_0 rfl ?_
  refine ev_do i135_1 rfl ?_
  refine ev_icmp (t := 14) i135_2 rfl (fun c_1 => ?_) (fun c_1 => ?_)
  · replace hf := x_pos (show x0 < x1 from c_1) hf
    exact j135_14_ok hd hf
  · replace hf := x_neg (show ¬ x0 < x1 from c_1) hf
    refine ev_do i135_5 rfl ?_
    refine ev_do i135_6 rfl ?_
    refine ev_icmp (t := 14) i135_7 rfl (fun c_2 => ?_) (fun c_2 => ?_)
    · replace hf := x_pos (show x2 < x0 from c_2) hf
      exact j135_14_ok hd hf
    · replace hf := x_neg (show ¬ x2 < x0 from c_2) hf
      refine ev_do i135_10 rfl ?_
      refine sh_goto (t := 15) i135_11 rfl ?_
      exact j135_15_ok hd hf
end
section
def fn93 (o0 : Option Nat) (o1 : Option Nat) (x2 : Int32) (x3 : Int32) (o4 : Option Nat) (h : xH) : Option (Option Nat × xH) := (if o4 = none then some (none, h) else (xcv h o1 9).bind fun _ => (fn105 o1 46 x2 x3 h).bind fun r_2 => (if x3 ≤ r_2.1 then (xcv r_2.2 o1 9).bind fun _ => (fn96 o1 x2 r_2.2).bind fun r_4 => (fn135 r_4.1 65 90 r_4.2).bind fun r_5 => (if r_5.1 = 0 then (xcv r_5.2 o4 2).bind fun _ => (fn13 o4 r_5.2).bind fun r_7 => (xcv r_7.2 o0 8).bind fun _ => (fn89 o0 r_7.1 o1 x2 x3 r_7.2).bind fun r_8 => some (r_8.1, r_8.2) else (xcv r_5.2 o0 8).bind fun _ => (fn87 o0 o1 x2 x3 r_5.2).bind fun r_11 => some (r_11.1, r_11.2)) else (xcv r_2.2 o0 8).bind fun _ => (fn87 o0 o1 x2 r_2.1 r_2.2).bind fun r_14 => (xcv r_14.2 o0 8).bind fun _ => (fn89 o0 r_14.1 o1 (r_2.1 + 1) x3 r_14.2).bind fun r_15 => some (r_15.1, r_15.2)))
theorem fn93_call {xs : List Int32} {d : Nat} (hd : 5 ≤ d) {o0 : Option Nat} {o1 : Option Nat} {x2 : Int32} {x3 : Int32} {o4 : Option Nat} {h : xH} {r : (Option Nat × xH)} (hf : fn93 o0 o1 x2 x3 o4 h = some r) : xCall (xTa xs) d 93 [xrv o0, xrv o1, .int x2, .int x3, xrv o4] h (some (xrv r.1), r.2) := by
  obtain ⟨d, rfl⟩ : ∃ d2, d = d2 + 1 := ⟨d - 1, by omega⟩
  replace hd : 4 ≤ d := by omega
  refine call_of2 (fl := [xrv o0, xrv o1, .int x2, .int x3, xrv o4]) (Ls := [xrv o0, xrv o1, .int x2, .int x3, xrv o4, .float 0]) m93 (by simp [xfl, xrv_cat, xc_i, xc_j, xc_a, xc_f]) (Nat.le_of_ble_eq_true rfl) rfl ?_
  unfold fn93 at hf
  refine sh_aload (i' := 4) (n := 2) i93_0 (Or.inl rfl) rfl ?_
  refine sh_nnul (t := 7) i93_2 rfl (fun c_1 => ?_) (fun c_1 => ?_)
  · replace hf := x_pos c_1 hf
    refine sh_cnull i93_5 ?_
    obtain rfl := Option.some.inj hf
    exact sh_aret i93_6 m93 rfl
  · replace hf := x_neg c_1 hf
    refine sh_aload (i' := 1) (n := 1) i93_7 (Or.inr ⟨rfl, by decide⟩) rfl ?_
    refine ev_do i93_8 rfl ?_
    refine ev_do i93_10 rfl ?_
    refine ev_do i93_11 rfl ?_
    obtain ⟨_, eu_18, hf⟩ := x_bind hf
    obtain ⟨r_2, er_2, hf⟩ := x_bind hf
    refine sh_inv (as := [.int x3, .int x2, .int 46]) (z := (some (.int r_2.1), r_2.2)) i93_12 v93_78 (Or.inl ⟨by decide, rfl⟩) m105 rfl (Nat.le_of_ble_eq_true rfl) eu_18 (fn105_call (by omega) er_2) ?_
    refine sh_istore (i' := 5) (n := 2) i93_15 (Or.inl rfl) (xokst_of (Nat.le_of_ble_eq_true rfl) (xrv_cat (o4))) ?_
    refine ev_do i93_17 rfl ?_
    refine ev_do i93_19 rfl ?_
    refine ev_icmp (t := 42) i93_20 rfl (fun c_3 => ?_) (fun c_3 => ?_)
    · replace hf := x_pos (show x3 ≤ r_2.1 from c_3) hf
      refine sh_aload (i' := 1) (n := 1) i93_42 (Or.inr ⟨rfl, by decide⟩) rfl ?_
      refine ev_do i93_43 rfl ?_
      obtain ⟨_, eu_13, hf⟩ := x_bind hf
      obtain ⟨r_4, er_4, hf⟩ := x_bind hf
      refine sh_inv (as := [.int x2]) (z := (some (.int r_4.1), r_4.2)) i93_44 v93_86 (Or.inl ⟨by decide, rfl⟩) m96 rfl (Nat.le_of_ble_eq_true rfl) eu_13 (fn96_call (by omega) er_4) ?_
      refine ev_do i93_47 rfl ?_
      refine ev_do i93_49 rfl ?_
      obtain ⟨r_5, er_5, hf⟩ := x_bind hf
      refine ev_sta (as := [.int 90, .int 65, .int r_4.1]) (z := (some (.int r_5.1), r_5.2)) i93_51 v93_90 (Or.inr rfl) m135 rfl (Nat.le_of_ble_eq_true rfl) (fn135_call (by omega) er_5) ?_
      refine ev_if (t := 65) i93_54 rfl (fun c_6 => ?_) (fun c_6 => ?_)
      · replace hf := x_pos (show r_5.1 = 0 from c_6) hf
        refine sh_aload (i' := 0) (n := 1) i93_65 (Or.inr ⟨rfl, by decide⟩) rfl ?_
        refine sh_aload (i' := 4) (n := 2) i93_66 (Or.inl rfl) rfl ?_
        obtain ⟨_, eu_10, hf⟩ := x_bind hf
        obtain ⟨r_7, er_7, hf⟩ := x_bind hf
        refine sh_inv (as := []) (z := (some (xrv r_7.1), r_7.2)) i93_68 v93_94 (Or.inl ⟨by decide, rfl⟩) m13 rfl (by simp [xcat, xrv_cat, xc_i, xc_j, xc_a, xc_f]) eu_10 (fn13_call (by omega) er_7) ?_
        refine sh_aload (i' := 1) (n := 1) i93_71 (Or.inr ⟨rfl, by decide⟩) rfl ?_
        refine ev_do i93_72 rfl ?_
        refine ev_do i93_73 rfl ?_
        obtain ⟨_, eu_9, hf⟩ := x_bind hf
        obtain ⟨r_8, er_8, hf⟩ := x_bind hf
        refine sh_inv (as := [.int x3, .int x2, xrv o1, xrv r_7.1]) (z := (some (xrv r_8.1), r_8.2)) i93_74 v93_68 (Or.inl ⟨by decide, rfl⟩) m89 rfl (Nat.le_of_ble_eq_true rfl) eu_9 (fn89_call (by omega) er_8) ?_
        obtain rfl := Option.some.inj hf
        exact sh_aret i93_77 m93 rfl
      · replace hf := x_neg (show ¬ r_5.1 = 0 from c_6) hf
        refine sh_aload (i' := 0) (n := 1) i93_57 (Or.inr ⟨rfl, by decide⟩) rfl ?_
        refine sh_aload (i' := 1) (n := 1) i93_58 (Or.inr ⟨rfl, by decide⟩) rfl ?_
        refine ev_do i93_59 rfl ?_
        refine ev_do i93_60 rfl ?_
        obtain ⟨_, eu_12, hf⟩ := x_bind hf
        obtain ⟨r_11, er_11, hf⟩ := x_bind hf
        refine sh_inv (as := [.int x3, .int x2, xrv o1]) (z := (some (xrv r_11.1), r_11.2)) i93_61 v93_82 (Or.inl ⟨by decide, rfl⟩) m87 rfl (Nat.le_of_ble_eq_true rfl) eu_12 (fn87_call (by omega) er_11) ?_
        obtain rfl := Option.some.inj hf
        exact sh_aret i93_64 m93 rfl
    · replace hf := x_neg (show ¬ x3 ≤ r_2.1 from c_3) hf
      refine sh_aload (i' := 0) (n := 1) i93_23 (Or.inr ⟨rfl, by decide⟩) rfl ?_
      refine sh_aload (i' := 0) (n := 1) i93_24 (Or.inr ⟨rfl, by decide⟩) rfl ?_
      refine sh_aload (i' := 1) (n := 1) i93_25 (Or.inr ⟨rfl, by decide⟩) rfl ?_
      refine ev_do i93_26 rfl ?_
      refine ev_do i93_27 rfl ?_
      obtain ⟨_, eu_17, hf⟩ := x_bind hf
      obtain ⟨r_14, er_14, hf⟩ := x_bind hf
      refine sh_inv (as := [.int r_2.1, .int x2, xrv o1]) (z := (some (xrv r_14.1), r_14.2)) i93_29 v93_82 (Or.inl ⟨by decide, rfl⟩) m87 rfl (by simp [xcat, xrv_cat, xc_i, xc_j, xc_a, xc_f]) eu_17 (fn87_call (by omega) er_14) ?_
      refine sh_aload (i' := 1) (n := 1) i93_32 (Or.inr ⟨rfl, by decide⟩) rfl ?_
      refine ev_do i93_33 rfl ?_
      refine ev_do i93_35 rfl ?_
      refine ev_do i93_36 rfl ?_
      refine ev_do i93_37 rfl ?_
      obtain ⟨_, eu_16, hf⟩ := x_bind hf
      obtain ⟨r_15, er_15, hf⟩ := x_bind hf
      refine sh_inv (as := [.int x3, .int (r_2.1 + 1), xrv o1, xrv r_14.1]) (z := (some (xrv r_15.1), r_15.2)) i93_38 v93_68 (Or.inl ⟨by decide, rfl⟩) m89 rfl (Nat.le_of_ble_eq_true rfl) eu_16 (fn89_call (by omega) er_15) ?_
      obtain rfl := Option.some.inj hf
      exact sh_aret i93_41 m93 rfl
end
section
def j94_99 (k38 : Option Nat → Option Nat → Option Nat → Int32 → xH → Option xH) (o0 : Option Nat) (o1 : Option Nat) (o2 : Option Nat) (x3 : Int32) (o4 : Option Nat) (h : xH) : Option xH := k38 o0 o1 o2 (x3 + 1) h
theorem j94_99_ok {xs : List Int32} {d : Nat} (hd : 5 ≤ d) {k38 : Option Nat → Option Nat → Option Nat → Int32 → xH → Option xH} (hk38 : ∀ {u4 : Value} {o0 : Option Nat} {o1 : Option Nat} {o2 : Option Nat} {x3 : Int32} {h : xH} {r : xH}, u4.category = 1 → k38 o0 o1 o2 x3 h = some r → xEv (xTa xs) d 94 (38, [xrv o0, xrv o1, xrv o2, .int x3, u4], [], h) (none, r)) {o0 : Option Nat} {o1 : Option Nat} {o2 : Option Nat} {x3 : Int32} {o4 : Option Nat} {h : xH} {r : xH} (hf : j94_99 k38 o0 o1 o2 x3 o4 h = some r) : xEv (xTa xs) d 94 (99, [xrv o0, xrv o1, xrv o2, .int x3, xrv o4], [], h) (none, r) := by
  unfold j94_99 at hf
  refine sh_inc (i' := 3) i94_99 rfl (xokst_of (Nat.le_of_ble_eq_true rfl) (xrv_cat (o2))) rfl ?_
  refine sh_goto (t := 38) i94_102 rfl ?_
  exact hk38 (xrv_cat (o4)) hf
def l94_38  : Nat → Option Nat → Option Nat → Option Nat → Int32 → xH → Option xH
  | 0 => fun _ _ _ _ _ => none
  | n + 1 => fun o0 o1 o2 x3 h => (xgI h o2 0 5).bind fun v_1 => (if v_1 ≤ x3 then some h else (xgI h o2 0 4).bind fun v_3 => (xcv h o1 1).bind fun _ => (fn6 o1 (v_3 + x3) h).bind fun r_4 => (if r_4.1 = none then j94_99 (l94_38 n) o0 o1 o2 x3 r_4.1 r_4.2 else (xgI r_4.2 r_4.1 6 0).bind fun v_6 => (if v_6 = 2 then (xgR r_4.2 o1 1 0).bind fun a_8 => (xgI r_4.2 r_4.1 6 4).bind fun v_9 => (xgI r_4.2 r_4.1 6 5).bind fun v_10 => (xgR r_4.2 o1 1 5).bind fun a_11 => (xcv r_4.2 o0 8).bind fun _ => (fn93 o0 a_8 v_9 v_10 a_11 r_4.2).bind fun r_12 => (xpF r_12.2 r_4.1 6 7 (.object "DocFormat$Entry") (xrv r_12.1)).bind fun h_13 => j94_99 (l94_38 n) o0 o1 o2 x3 r_4.1 h_13 else j94_99 (l94_38 n) o0 o1 o2 x3 r_4.1 r_4.2)))
theorem l94_38_ok {xs : List Int32} {d : Nat} (hd : 5 ≤ d) : ∀ (n : Nat) {u4 : Value} {o0 : Option Nat} {o1 : Option Nat} {o2 : Option Nat} {x3 : Int32} {h : xH} {r : xH} (hu4 : u4.category = 1), l94_38 n o0 o1 o2 x3 h = some r → xEv (xTa xs) d 94 (38, [xrv o0, xrv o1, xrv o2, .int x3, u4], [], h) (none, r) := by
  intro n
  induction n with
  | zero => intros; rename_i hf; cases hf
  | succ n ih =>
    intro u4 o0 o1 o2 x3 h r hu4 hf
    replace hf : ((xgI h o2 0 5).bind fun v_1 => (if v_1 ≤ x3 then some h else (xgI h o2 0 4).bind fun v_3 => (xcv h o1 1).bind fun _ => (fn6 o1 (v_3 + x3) h).bind fun r_4 => (if r_4.1 = none then j94_99 (l94_38 n) o0 o1 o2 x3 r_4.1 r_4.2 else (xgI r_4.2 r_4.1 6 0).bind fun v_6 => (if v_6 = 2 then (xgR r_4.2 o1 1 0).bind fun a_8 => (xgI r_4.2 r_4.1 6 4).bind fun v_9 => (xgI r_4.2 r_4.1 6 5).bind fun v_10 => (xgR r_4.2 o1 1 5).bind fun a_11 => (xcv r_4.2 o0 8).bind fun _ => (fn93 o0 a_8 v_9 v_10 a_11 r_4.2).bind fun r_12 => (xpF r_12.2 r_4.1 6 7 (.object "DocFormat$Entry") (xrv r_12.1)).bind fun h_13 => j94_99 (l94_38 n) o0 o1 o2 x3 r_4.1 h_13 else j94_99 (l94_38 n) o0 o1 o2 x3 r_4.1 r_4.2)))) = some r := hf
    refine ev_do i94_38 rfl ?_
    refine sh_aload (i' := 2) (n := 1) i94_39 (Or.inr ⟨rfl, by decide⟩) rfl ?_
    obtain ⟨v_1, ev_1, hf⟩ := x_bind hf
    refine sh_getI i94_40 f94_124 ev_1 ?_
    refine ev_icmp (t := 105) i94_43 rfl (fun c_2 => ?_) (fun c_2 => ?_)
    · replace hf := x_pos (show v_1 ≤ x3 from c_2) hf
      obtain rfl := Option.some.inj hf
      exact sh_vret i94_105 m94 rfl
    · replace hf := x_neg (show ¬ v_1 ≤ x3 from c_2) hf
      refine sh_aload (i' := 1) (n := 1) i94_46 (Or.inr ⟨rfl, by decide⟩) rfl ?_
      refine sh_aload (i' := 2) (n := 1) i94_47 (Or.inr ⟨rfl, by decide⟩) rfl ?_
      obtain ⟨v_3, ev_3, hf⟩ := x_bind hf
      refine sh_getI i94_48 f94_127 ev_3 ?_
      refine ev_do i94_51 rfl ?_
      refine ev_do i94_52 rfl ?_
      obtain ⟨_, eu_15, hf⟩ := x_bind hf
      obtain ⟨r_4, er_4, hf⟩ := x_bind hf
      refine sh_inv (as := [.int (v_3 + x3)]) (z := (some (xrv r_4.1), r_4.2)) i94_53 v94_130 (Or.inl ⟨by decide, rfl⟩) m6 rfl (Nat.le_of_ble_eq_true rfl) eu_15 (fn6_call (by omega) er_4) ?_
      refine sh_astore (i' := 4) (n := 2) i94_56 (Or.inl rfl) (xokst_of (Nat.le_of_ble_eq_true rfl) rfl) ?_
      refine sh_aload (i' := 4) (n := 2) i94_58 (Or.inl rfl) rfl ?_
      refine sh_null (t := 99) i94_60 rfl (fun c_5 => ?_) (fun c_5 => ?_)
      · replace hf := x_pos c_5 hf
        exact j94_99_ok hd ih hf
      · replace hf := x_neg c_5 hf
        refine sh_aload (i' := 4) (n := 2) i94_63 (Or.inl rfl) rfl ?_
        obtain ⟨v_6, ev_6, hf⟩ := x_bind hf
        refine sh_getI i94_65 f94_134 ev_6 ?_
        refine ev_do i94_68 rfl ?_
        refine ev_icmp (t := 99) i94_69 rfl (fun c_7 => ?_) (fun c_7 => ?_)
        · replace hf := x_neg (show ¬ v_6 = 2 from c_7) hf
          exact j94_99_ok hd ih hf
        · replace hf := x_pos (show v_6 = 2 from Decidable.byContradiction (fun h9 => c_7 h9)) hf
          refine sh_aload (i' := 4) (n := 2) i94_72 (Or.inl rfl) rfl ?_
          refine sh_aload (i' := 0) (n := 1) i94_74 (Or.inr ⟨rfl, by decide⟩) rfl ?_
          refine sh_aload (i' := 1) (n := 1) i94_75 (Or.inr ⟨rfl, by decide⟩) rfl ?_
          obtain ⟨a_8, ea_8, hf⟩ := x_bind hf
          refine sh_getR i94_76 f94_106 ea_8 ?_
          refine sh_aload (i' := 4) (n := 2) i94_79 (Or.inl rfl) rfl ?_
          obtain ⟨v_9, ev_9, hf⟩ := x_bind hf
          refine sh_getI i94_81 f94_139 ev_9 ?_
          refine sh_aload (i' := 4) (n := 2) i94_84 (Or.inl rfl) rfl ?_
          obtain ⟨v_10, ev_10, hf⟩ := x_bind hf
          refine sh_getI i94_86 f94_140 ev_10 ?_
          refine sh_aload (i' := 1) (n := 1) i94_89 (Or.inr ⟨rfl, by decide⟩) rfl ?_
          obtain ⟨a_11, ea_11, hf⟩ := x_bind hf
          refine sh_getR i94_90 f94_117 ea_11 ?_
          obtain ⟨_, eu_14, hf⟩ := x_bind hf
          obtain ⟨r_12, er_12, hf⟩ := x_bind hf
          refine sh_inv (as := [xrv a_11, .int v_10, .int v_9, xrv a_8]) (z := (some (xrv r_12.1), r_12.2)) i94_93 v94_120 (Or.inl ⟨by decide, rfl⟩) m93 rfl (by simp [xcat, xrv_cat, xc_i, xc_j, xc_a, xc_f]) eu_14 (fn93_call (by omega) er_12) ?_
          obtain ⟨h_13, eh_13, hf⟩ := x_bind hf
          refine sh_put i94_96 f94_141 (by decide) rfl eh_13 ?_
          exact j94_99_ok hd ih hf
def j94_36  (o0 : Option Nat) (o1 : Option Nat) (o2 : Option Nat) (h : xH) : Option xH := l94_38 xFuel o0 o1 o2 0 h
theorem j94_36_ok {xs : List Int32} {d : Nat} (hd : 5 ≤ d) {u3 : Value} {u4 : Value} {o0 : Option Nat} {o1 : Option Nat} {o2 : Option Nat} {h : xH} {r : xH} (hu3 : u3.category = 1) (hu4 : u4.category = 1) (hf : j94_36 o0 o1 o2 h = some r) : xEv (xTa xs) d 94 (36, [xrv o0, xrv o1, xrv o2, u3, u4], [], h) (none, r) := by
  unfold j94_36 at hf
  refine ev_do i94_36 rfl ?_
  refine sh_istore (i' := 3) (n := 1) i94_37 (Or.inr ⟨rfl, by decide⟩) (xokst_of (Nat.le_of_ble_eq_true rfl) (xrv_cat (o2))) ?_
  exact l94_38_ok hd xFuel hu4 hf
def fn94 (o0 : Option Nat) (o1 : Option Nat) (o2 : Option Nat) (h : xH) : Option xH := (xpF h o2 0 9 (.object "DocFormat$Entry") (xrv none)).bind fun h_1 => (xcv h_1 o2 0).bind fun _ => (fn1 o2 h_1).bind fun r_2 => (if r_2.1 = 0 then j94_36 o0 o1 o2 r_2.2 else (xgR r_2.2 o1 1 0).bind fun a_4 => (xgI r_2.2 o2 0 6).bind fun v_5 => (xgI r_2.2 o2 0 7).bind fun v_6 => (xgR r_2.2 o1 1 5).bind fun a_7 => (xcv r_2.2 o0 8).bind fun _ => (fn93 o0 a_4 v_5 v_6 a_7 r_2.2).bind fun r_8 => (xpF r_8.2 o2 0 9 (.object "DocFormat$Entry") (xrv r_8.1)).bind fun h_9 => j94_36 o0 o1 o2 h_9)
theorem fn94_call {xs : List Int32} {d : Nat} (hd : 6 ≤ d) {o0 : Option Nat} {o1 : Option Nat} {o2 : Option Nat} {h : xH} {r : xH} (hf : fn94 o0 o1 o2 h = some r) : xCall (xTa xs) d 94 [xrv o0, xrv o1, xrv o2] h (none, r) := by
  obtain ⟨d, rfl⟩ : ∃ d2, d = d2 + 1 := ⟨d - 1, by omega⟩
  replace hd : 5 ≤ d := by omega
  refine call_of2 (fl := [xrv o0, xrv o1, xrv o2]) (Ls := [xrv o0, xrv o1, xrv o2, .float 0, .float 0]) m94 (by simp [xfl, xrv_cat, xc_i, xc_j, xc_a, xc_f]) (Nat.le_of_ble_eq_true rfl) rfl ?_
  unfold fn94 at hf
  refine sh_aload (i' := 2) (n := 1) i94_0 (Or.inr ⟨rfl, by decide⟩) rfl ?_
  refine sh_cnull i94_1 ?_
  obtain ⟨h_1, eh_1, hf⟩ := x_bind hf
  refine sh_put i94_2 f94_98 (by decide) rfl eh_1 ?_
  refine sh_aload (i' := 2) (n := 1) i94_5 (Or.inr ⟨rfl, by decide⟩) rfl ?_
  obtain ⟨_, eu_11, hf⟩ := x_bind hf
  obtain ⟨r_2, er_2, hf⟩ := x_bind hf
  refine sh_inv (as := []) (z := (some (.int r_2.1), r_2.2)) i94_6 v94_103 (Or.inl ⟨by decide, rfl⟩) m1 rfl (Nat.le_of_ble_eq_true rfl) eu_11 (fn1_call (by omega) er_2) ?_
  refine ev_if (t := 36) i94_9 rfl (fun c_3 => ?_) (fun c_3 => ?_)
  · replace hf := x_pos (show r_2.1 = 0 from c_3) hf
    exact j94_36_ok hd rfl rfl hf
  · replace hf := x_neg (show ¬ r_2.1 = 0 from c_3) hf
    refine sh_aload (i' := 2) (n := 1) i94_12 (Or.inr ⟨rfl, by decide⟩) rfl ?_
    refine sh_aload (i' := 0) (n := 1) i94_13 (Or.inr ⟨rfl, by decide⟩) rfl ?_
    refine sh_aload (i' := 1) (n := 1) i94_14 (Or.inr ⟨rfl, by decide⟩) rfl ?_
    obtain ⟨a_4, ea_4, hf⟩ := x_bind hf
    refine sh_getR i94_15 f94_106 ea_4 ?_
    refine sh_aload (i' := 2) (n := 1) i94_18 (Or.inr ⟨rfl, by decide⟩) rfl ?_
    obtain ⟨v_5, ev_5, hf⟩ := x_bind hf
    refine sh_getI i94_19 f94_111 ev_5 ?_
    refine sh_aload (i' := 2) (n := 1) i94_22 (Or.inr ⟨rfl, by decide⟩) rfl ?_
    obtain ⟨v_6, ev_6, hf⟩ := x_bind hf
    refine sh_getI i94_23 f94_114 ev_6 ?_
    refine sh_aload (i' := 1) (n := 1) i94_26 (Or.inr ⟨rfl, by decide⟩) rfl ?_
    obtain ⟨a_7, ea_7, hf⟩ := x_bind hf
    refine sh_getR i94_27 f94_117 ea_7 ?_
    obtain ⟨_, eu_10, hf⟩ := x_bind hf
    obtain ⟨r_8, er_8, hf⟩ := x_bind hf
    refine sh_inv (as := [xrv a_7, .int v_6, .int v_5, xrv a_4]) (z := (some (xrv r_8.1), r_8.2)) i94_30 v94_120 (Or.inl ⟨by decide, rfl⟩) m93 rfl (by simp [xcat, xrv_cat, xc_i, xc_j, xc_a, xc_f]) eu_10 (fn93_call (by omega) er_8) ?_
    obtain ⟨h_9, eh_9, hf⟩ := x_bind hf
    refine sh_put i94_33 f94_98 (by decide) rfl eh_9 ?_
    exact j94_36_ok hd rfl rfl hf
end
section
def j23_37 (k2 : Option Nat → Option Nat → Int32 → xH → Option xH) (o0 : Option Nat) (o1 : Option Nat) (x2 : Int32) (o3 : Option Nat) (h : xH) : Option xH := k2 o0 o1 (x2 + 1) h
theorem j23_37_ok {xs : List Int32} {d : Nat} (hd : 6 ≤ d) {k2 : Option Nat → Option Nat → Int32 → xH → Option xH} (hk2 : ∀ {u3 : Value} {o0 : Option Nat} {o1 : Option Nat} {x2 : Int32} {h : xH} {r : xH}, u3.category = 1 → k2 o0 o1 x2 h = some r → xEv (xTa xs) d 23 (2, [xrv o0, xrv o1, .int x2, u3], [], h) (none, r)) {o0 : Option Nat} {o1 : Option Nat} {x2 : Int32} {o3 : Option Nat} {h : xH} {r : xH} (hf : j23_37 k2 o0 o1 x2 o3 h = some r) : xEv (xTa xs) d 23 (37, [xrv o0, xrv o1, .int x2, xrv o3], [], h) (none, r) := by
  unfold j23_37 at hf
  refine sh_inc (i' := 2) i23_37 rfl (xokst_of (Nat.le_of_ble_eq_true rfl) (xrv_cat (o1))) rfl ?_
  refine sh_goto (t := 2) i23_40 rfl ?_
  exact hk2 (xrv_cat (o3)) hf
def l23_2  : Nat → Option Nat → Option Nat → Int32 → xH → Option xH
  | 0 => fun _ _ _ _ => none
  | n + 1 => fun o0 o1 x2 h => (xgI h o0 3 1).bind fun v_1 => (if v_1 ≤ x2 then some h else (xgR h o0 3 0).bind fun a_3 => (xaR h a_3 x2).bind fun a_4 => (if a_4 = none then j23_37 (l23_2 n) o0 o1 x2 a_4 h else (xgR h a_4 0 0).bind fun a_6 => (if a_6 = none then j23_37 (l23_2 n) o0 o1 x2 a_4 h else (xgR h a_4 0 0).bind fun a_8 => (xcv h o1 8).bind fun _ => (fn94 o1 a_8 a_4 h).bind fun h_9 => j23_37 (l23_2 n) o0 o1 x2 a_4 h_9)))
theorem l23_2_ok {xs : List Int32} {d : Nat} (hd : 6 ≤ d) : ∀ (n : Nat) {u3 : Value} {o0 : Option Nat} {o1 : Option Nat} {x2 : Int32} {h : xH} {r : xH} (hu3 : u3.category = 1), l23_2 n o0 o1 x2 h = some r → xEv (xTa xs) d 23 (2, [xrv o0, xrv o1, .int x2, u3], [], h) (none, r) := by
  intro n
  induction n with
  | zero => intros; rename_i hf; cases hf
  | succ n ih =>
    intro u3 o0 o1 x2 h r hu3 hf
    replace hf : ((xgI h o0 3 1).bind fun v_1 => (if v_1 ≤ x2 then some h else (xgR h o0 3 0).bind fun a_3 => (xaR h a_3 x2).bind fun a_4 => (if a_4 = none then j23_37 (l23_2 n) o0 o1 x2 a_4 h else (xgR h a_4 0 0).bind fun a_6 => (if a_6 = none then j23_37 (l23_2 n) o0 o1 x2 a_4 h else (xgR h a_4 0 0).bind fun a_8 => (xcv h o1 8).bind fun _ => (fn94 o1 a_8 a_4 h).bind fun h_9 => j23_37 (l23_2 n) o0 o1 x2 a_4 h_9)))) = some r := hf
    refine ev_do i23_2 rfl ?_
    refine sh_aload (i' := 0) (n := 1) i23_3 (Or.inr ⟨rfl, by decide⟩) rfl ?_
    obtain ⟨v_1, ev_1, hf⟩ := x_bind hf
    refine sh_getI i23_4 f23_36 ev_1 ?_
    refine ev_icmp (t := 43) i23_7 rfl (fun c_2 => ?_) (fun c_2 => ?_)
    · replace hf := x_pos (show v_1 ≤ x2 from c_2) hf
      obtain rfl := Option.some.inj hf
      exact sh_vret i23_43 m23 rfl
    · replace hf := x_neg (show ¬ v_1 ≤ x2 from c_2) hf
      refine sh_aload (i' := 0) (n := 1) i23_10 (Or.inr ⟨rfl, by decide⟩) rfl ?_
      obtain ⟨a_3, ea_3, hf⟩ := x_bind hf
      refine sh_getR i23_11 f23_11 ea_3 ?_
      refine ev_do i23_14 rfl ?_
      obtain ⟨a_4, ea_4, hf⟩ := x_bind hf
      refine sh_aldR i23_15 ea_4 ?_
      refine sh_astore (i' := 3) (n := 1) i23_16 (Or.inr ⟨rfl, by decide⟩) (xokst_of (Nat.le_of_ble_eq_true rfl) rfl) ?_
      refine sh_aload (i' := 3) (n := 1) i23_17 (Or.inr ⟨rfl, by decide⟩) rfl ?_
      refine sh_null (t := 37) i23_18 rfl (fun c_5 => ?_) (fun c_5 => ?_)
      · replace hf := x_pos c_5 hf
        exact j23_37_ok hd ih hf
      · replace hf := x_neg c_5 hf
        refine sh_aload (i' := 3) (n := 1) i23_21 (Or.inr ⟨rfl, by decide⟩) rfl ?_
        obtain ⟨a_6, ea_6, hf⟩ := x_bind hf
        refine sh_getR i23_22 f23_76 ea_6 ?_
        refine sh_null (t := 37) i23_25 rfl (fun c_7 => ?_) (fun c_7 => ?_)
        · replace hf := x_pos c_7 hf
          exact j23_37_ok hd ih hf
        · replace hf := x_neg c_7 hf
          refine sh_aload (i' := 1) (n := 1) i23_28 (Or.inr ⟨rfl, by decide⟩) rfl ?_
          refine sh_aload (i' := 3) (n := 1) i23_29 (Or.inr ⟨rfl, by decide⟩) rfl ?_
          obtain ⟨a_8, ea_8, hf⟩ := x_bind hf
          refine sh_getR i23_30 f23_76 ea_8 ?_
          refine sh_aload (i' := 3) (n := 1) i23_33 (Or.inr ⟨rfl, by decide⟩) rfl ?_
          obtain ⟨_, eu_10, hf⟩ := x_bind hf
          obtain ⟨h_9, eh_9, hf⟩ := x_bind hf
          refine sh_inv (as := [xrv a_4, xrv a_8]) (z := (none, h_9)) i23_34 v23_79 (Or.inl ⟨by decide, rfl⟩) m94 rfl (Nat.le_of_ble_eq_true rfl) eu_10 (fn94_call (by omega) eh_9) ?_
          exact j23_37_ok hd ih hf
def fn23 (o0 : Option Nat) (o1 : Option Nat) (h : xH) : Option xH := l23_2 xFuel o0 o1 0 h
theorem fn23_call {xs : List Int32} {d : Nat} (hd : 7 ≤ d) {o0 : Option Nat} {o1 : Option Nat} {h : xH} {r : xH} (hf : fn23 o0 o1 h = some r) : xCall (xTa xs) d 23 [xrv o0, xrv o1] h (none, r) := by
  obtain ⟨d, rfl⟩ : ∃ d2, d = d2 + 1 := ⟨d - 1, by omega⟩
  replace hd : 6 ≤ d := by omega
  refine call_of2 (fl := [xrv o0, xrv o1]) (Ls := [xrv o0, xrv o1, .float 0, .float 0]) m23 (by simp [xfl, xrv_cat, xc_i, xc_j, xc_a, xc_f]) (Nat.le_of_ble_eq_true rfl) rfl ?_
  unfold fn23 at hf
  refine ev_do i23_0 rfl ?_
  refine sh_istore (i' := 2) (n := 1) i23_1 (Or.inr ⟨rfl, by decide⟩) (xokst_of (Nat.le_of_ble_eq_true rfl) (xrv_cat (o1))) ?_
  exact l23_2_ok hd xFuel rfl hf
end
section
def j25_46  (o0 : Option Nat) (o1 : Option Nat) (s0 : Int32) (h : xH) : Option (Int32 × xH) := (if s0 &&& 1 = s0 then some (s0, h) else none)
theorem j25_46_ok {xs : List Int32} {d : Nat} (hd : 2 ≤ d) {o0 : Option Nat} {o1 : Option Nat} {s0 : Int32} {h : xH} {r : (Int32 × xH)} (hf : j25_46 o0 o1 s0 h = some r) : xEv (xTa xs) d 25 (46, [xrv o0, xrv o1], [.int s0], h) (some (.int r.1), r.2) := by
  unfold j25_46 at hf
  by_cases c_1 : s0 &&& 1 = s0
  · replace hf := x_pos c_1 hf
    obtain rfl := Option.some.inj hf
    exact sh_iret i25_46 m25 rfl (congrArg Value.int c_1)
  · replace hf := x_neg c_1 hf
    cases hf
def fn25 (o0 : Option Nat) (o1 : Option Nat) (h : xH) : Option (Int32 × xH) := (if o0 = none then some (1, h) else (xgI h o1 0 1).bind fun v_2 => (fn138 v_2 h).bind fun r_3 => (if r_3.1 = 0 then (xgI r_3.2 o1 0 8).bind fun v_5 => (if v_5 = 0 then j25_46 o0 o1 1 r_3.2 else j25_46 o0 o1 0 r_3.2) else (xgI r_3.2 o0 0 1).bind fun v_7 => (fn138 v_7 r_3.2).bind fun r_8 => (if r_8.1 = 0 then j25_46 o0 o1 1 r_8.2 else j25_46 o0 o1 0 r_8.2)))
theorem fn25_call {xs : List Int32} {d : Nat} (hd : 3 ≤ d) {o0 : Option Nat} {o1 : Option Nat} {h : xH} {r : (Int32 × xH)} (hf : fn25 o0 o1 h = some r) : xCall (xTa xs) d 25 [xrv o0, xrv o1] h (some (.int r.1), r.2) := by
  obtain ⟨d, rfl⟩ : ∃ d2, d = d2 + 1 := ⟨d - 1, by omega⟩
  replace hd : 2 ≤ d := by omega
  refine call_of2 (fl := [xrv o0, xrv o1]) (Ls := [xrv o0, xrv o1]) m25 (by simp [xfl, xrv_cat, xc_i, xc_j, xc_a, xc_f]) (Nat.le_of_ble_eq_true rfl) rfl ?_
  unfold fn25 at hf
  refine sh_aload (i' := 0) (n := 1) i25_0 (Or.inr ⟨rfl, by decide⟩) rfl ?_
  refine sh_nnul (t := 6) i25_1 rfl (fun c_1 => ?_) (fun c_1 => ?_)
  · replace hf := x_pos c_1 hf
    refine ev_do i25_4 rfl ?_
    obtain rfl := Option.some.inj hf
    exact sh_iret i25_5 m25 rfl (by decide)
  · replace hf := x_neg c_1 hf
    refine sh_aload (i' := 1) (n := 1) i25_6 (Or.inr ⟨rfl, by decide⟩) rfl ?_
    obtain ⟨v_2, ev_2, hf⟩ := x_bind hf
    refine sh_getI i25_7 f25_55 ev_2 ?_
    obtain ⟨r_3, er_3, hf⟩ := x_bind hf
    refine ev_sta (as := [.int v_2]) (z := (some (.int r_3.1), r_3.2)) i25_10 v25_68 (Or.inr rfl) m138 rfl (Nat.le_of_ble_eq_true rfl) (fn138_call (by omega) er_3) ?_
    refine ev_if (t := 34) i25_13 rfl (fun c_4 => ?_) (fun c_4 => ?_)
    · replace hf := x_pos (show r_3.1 = 0 from c_4) hf
      refine sh_aload (i' := 1) (n := 1) i25_34 (Or.inr ⟨rfl, by decide⟩) rfl ?_
      obtain ⟨v_5, ev_5, hf⟩ := x_bind hf
      refine sh_getI i25_35 f25_114 ev_5 ?_
      refine ev_if (t := 45) i25_38 rfl (fun c_6 => ?_) (fun c_6 => ?_)
      · replace hf := x_neg (show ¬ v_5 = 0 from c_6) hf
        refine ev_do i25_45 rfl ?_
        exact j25_46_ok hd hf
      · replace hf := x_pos (show v_5 = 0 from Decidable.byContradiction (fun h9 => c_6 h9)) hf
        refine ev_do i25_41 rfl ?_
        refine sh_goto (t := 46) i25_42 rfl ?_
        exact j25_46_ok hd hf
    · replace hf := x_neg (show ¬ r_3.1 = 0 from c_4) hf
      refine sh_aload (i' := 0) (n := 1) i25_16 (Or.inr ⟨rfl, by decide⟩) rfl ?_
      obtain ⟨v_7, ev_7, hf⟩ := x_bind hf
      refine sh_getI i25_17 f25_55 ev_7 ?_
      obtain ⟨r_8, er_8, hf⟩ := x_bind hf
      refine ev_sta (as := [.int v_7]) (z := (some (.int r_8.1), r_8.2)) i25_20 v25_68 (Or.inr rfl) m138 rfl (Nat.le_of_ble_eq_true rfl) (fn138_call (by omega) er_8) ?_
      refine ev_if (t := 30) i25_23 rfl (fun c_9 => ?_) (fun c_9 => ?_)
      · replace hf := x_neg (show ¬ r_8.1 = 0 from c_9) hf
        refine ev_do i25_30 rfl ?_
        refine sh_goto (t := 46) i25_31 rfl ?_
        exact j25_46_ok hd hf
      · replace hf := x_pos (show r_8.1 = 0 from Decidable.byContradiction (fun h9 => c_9 h9)) hf
        refine ev_do i25_26 rfl ?_
        refine sh_goto (t := 46) i25_27 rfl ?_
        exact j25_46_ok hd hf
end
section
def j27_42  (o0 : Option Nat) (x1 : Int32) (s0 : Option Nat) (s1 : Int32) (h : xH) : Option xH := (xcv h s0 9).bind fun _ => (fn97 s0 s1 h).bind fun r_1 => (xcv r_1.2 o0 9).bind fun _ => (fn97 o0 93 r_1.2).bind fun r_2 => some r_2.2
theorem j27_42_ok {xs : List Int32} {d : Nat} (hd : 2 ≤ d) {o0 : Option Nat} {x1 : Int32} {s0 : Option Nat} {s1 : Int32} {h : xH} {r : xH} (hf : j27_42 o0 x1 s0 s1 h = some r) : xEv (xTa xs) d 27 (42, [xrv o0, .int x1], [.int s1, xrv s0], h) (none, r) := by
  unfold j27_42 at hf
  obtain ⟨_, eu_4, hf⟩ := x_bind hf
  obtain ⟨r_1, er_1, hf⟩ := x_bind hf
  refine sh_inv (as := [.int s1]) (z := (some (.int r_1.1), r_1.2)) i27_42 v27_141 (Or.inl ⟨by decide, rfl⟩) m97 rfl (Nat.le_of_ble_eq_true rfl) eu_4 (fn97_call (by omega) er_1) ?_
  refine sh_pop i27_45 rfl ?_
  refine sh_aload (i' := 0) (n := 1) i27_46 (Or.inr ⟨rfl, by decide⟩) rfl ?_
  refine ev_do i27_47 rfl ?_
  obtain ⟨_, eu_3, hf⟩ := x_bind hf
  obtain ⟨r_2, er_2, hf⟩ := x_bind hf
  refine sh_inv (as := [.int 93]) (z := (some (.int r_2.1), r_2.2)) i27_49 v27_141 (Or.inl ⟨by decide, rfl⟩) m97 rfl (Nat.le_of_ble_eq_true rfl) eu_3 (fn97_call (by omega) er_2) ?_
  refine sh_pop i27_52 rfl ?_
  obtain rfl := Option.some.inj hf
  exact sh_vret i27_53 m27 rfl
def j27_25  (o0 : Option Nat) (x1 : Int32) (h : xH) : Option xH := (if x1 ≤ 0 then j27_42 o0 x1 o0 63 h else j27_42 o0 x1 o0 (48 + (xrem x1 10)) h)
theorem j27_25_ok {xs : List Int32} {d : Nat} (hd : 2 ≤ d) {o0 : Option Nat} {x1 : Int32} {h : xH} {r : xH} (hf : j27_25 o0 x1 h = some r) : xEv (xTa xs) d 27 (25, [xrv o0, .int x1], [], h) (none, r) := by
  unfold j27_25 at hf
  refine sh_aload (i' := 0) (n := 1) i27_25 (Or.inr ⟨rfl, by decide⟩) rfl ?_
  refine ev_do i27_26 rfl ?_
  refine ev_if (t := 40) i27_27 rfl (fun c_1 => ?_) (fun c_1 => ?_)
  · replace hf := x_pos (show x1 ≤ 0 from c_1) hf
    refine ev_do i27_40 rfl ?_
    exact j27_42_ok hd hf
  · replace hf := x_neg (show ¬ x1 ≤ 0 from c_1) hf
    refine ev_do i27_30 rfl ?_
    refine ev_do i27_32 rfl ?_
    refine ev_do i27_33 rfl ?_
    refine sh_rem i27_35 (by decide) ?_
    refine ev_do i27_36 rfl ?_
    refine sh_goto (t := 42) i27_37 rfl ?_
    exact j27_42_ok hd hf
def fn27 (o0 : Option Nat) (x1 : Int32) (h : xH) : Option xH := (xcv h o0 9).bind fun _ => (fn97 o0 91 h).bind fun r_1 => (if x1 < 10 then j27_25 o0 x1 r_1.2 else (xcv r_1.2 o0 9).bind fun _ => (fn97 o0 (48 + (x1 / 10)) r_1.2).bind fun r_3 => j27_25 o0 x1 r_3.2)
theorem fn27_call {xs : List Int32} {d : Nat} (hd : 3 ≤ d) {o0 : Option Nat} {x1 : Int32} {h : xH} {r : xH} (hf : fn27 o0 x1 h = some r) : xCall (xTa xs) d 27 [xrv o0, .int x1] h (none, r) := by
  obtain ⟨d, rfl⟩ : ∃ d2, d = d2 + 1 := ⟨d - 1, by omega⟩
  replace hd : 2 ≤ d := by omega
  refine call_of2 (fl := [xrv o0, .int x1]) (Ls := [xrv o0, .int x1]) m27 (by simp [xfl, xrv_cat, xc_i, xc_j, xc_a, xc_f]) (Nat.le_of_ble_eq_true rfl) rfl ?_
  unfold fn27 at hf
  refine sh_aload (i' := 0) (n := 1) i27_0 (Or.inr ⟨rfl, by decide⟩) rfl ?_
  refine ev_do i27_1 rfl ?_
  obtain ⟨_, eu_5, hf⟩ := x_bind hf
  obtain ⟨r_1, er_1, hf⟩ := x_bind hf
  refine sh_inv (as := [.int 91]) (z := (some (.int r_1.1), r_1.2)) i27_3 v27_141 (Or.inl ⟨by decide, rfl⟩) m97 rfl (Nat.le_of_ble_eq_true rfl) eu_5 (fn97_call (by omega) er_1) ?_
  refine sh_pop i27_6 rfl ?_
  refine ev_do i27_7 rfl ?_
  refine ev_do i27_8 rfl ?_
  refine ev_icmp (t := 25) i27_10 rfl (fun c_2 => ?_) (fun c_2 => ?_)
  · replace hf := x_pos (show x1 < 10 from c_2) hf
    exact j27_25_ok hd hf
  · replace hf := x_neg (show ¬ x1 < 10 from c_2) hf
    refine sh_aload (i' := 0) (n := 1) i27_13 (Or.inr ⟨rfl, by decide⟩) rfl ?_
    refine ev_do i27_14 rfl ?_
    refine ev_do i27_16 rfl ?_
    refine ev_do i27_17 rfl ?_
    refine sh_div i27_19 (by decide) ?_
    refine ev_do i27_20 rfl ?_
    obtain ⟨_, eu_4, hf⟩ := x_bind hf
    obtain ⟨r_3, er_3, hf⟩ := x_bind hf
    refine sh_inv (as := [.int (48 + (x1 / 10))]) (z := (some (.int r_3.1), r_3.2)) i27_21 v27_141 (Or.inl ⟨by decide, rfl⟩) m97 rfl (Nat.le_of_ble_eq_true rfl) eu_4 (fn97_call (by omega) er_3) ?_
    refine sh_pop i27_24 rfl ?_
    exact j27_25_ok hd hf
end
section
def j52_16  (o0 : Option Nat) (x1 : Int32) (h : xH) : Option xH := some h
theorem j52_16_ok {xs : List Int32} {d : Nat} (hd : 2 ≤ d) {o0 : Option Nat} {x1 : Int32} {h : xH} {r : xH} (hf : j52_16 o0 x1 h = some r) : xEv (xTa xs) d 52 (16, [xrv o0, .int x1], [], h) (none, r) := by
  unfold j52_16 at hf
  obtain rfl := Option.some.inj hf
  exact sh_vret i52_16 m52 rfl
def fn52 (o0 : Option Nat) (x1 : Int32) (h : xH) : Option xH := (xgR h o0 5 0).bind fun a_1 => (xcv h a_1 9).bind fun _ => (fn97 a_1 x1 h).bind fun r_2 => (if r_2.1 = 0 then (xpF r_2.2 o0 5 8 .boolean (.int 1)).bind fun h_4 => j52_16 o0 x1 h_4 else j52_16 o0 x1 r_2.2)
theorem fn52_call {xs : List Int32} {d : Nat} (hd : 3 ≤ d) {o0 : Option Nat} {x1 : Int32} {h : xH} {r : xH} (hf : fn52 o0 x1 h = some r) : xCall (xTa xs) d 52 [xrv o0, .int x1] h (none, r) := by
  obtain ⟨d, rfl⟩ : ∃ d2, d = d2 + 1 := ⟨d - 1, by omega⟩
  replace hd : 2 ≤ d := by omega
  refine call_of2 (fl := [xrv o0, .int x1]) (Ls := [xrv o0, .int x1]) m52 (by simp [xfl, xrv_cat, xc_i, xc_j, xc_a, xc_f]) (Nat.le_of_ble_eq_true rfl) rfl ?_
  unfold fn52 at hf
  refine sh_aload (i' := 0) (n := 1) i52_0 (Or.inr ⟨rfl, by decide⟩) rfl ?_
  obtain ⟨a_1, ea_1, hf⟩ := x_bind hf
  refine sh_getR i52_1 f52_14 ea_1 ?_
  refine ev_do i52_4 rfl ?_
  obtain ⟨_, eu_5, hf⟩ := x_bind hf
  obtain ⟨r_2, er_2, hf⟩ := x_bind hf
  refine sh_inv (as := [.int x1]) (z := (some (.int r_2.1), r_2.2)) i52_5 v52_53 (Or.inl ⟨by decide, rfl⟩) m97 rfl (Nat.le_of_ble_eq_true rfl) eu_5 (fn97_call (by omega) er_2) ?_
  refine ev_if (t := 16) i52_8 rfl (fun c_3 => ?_) (fun c_3 => ?_)
  · replace hf := x_neg (show ¬ r_2.1 = 0 from c_3) hf
    exact j52_16_ok hd hf
  · replace hf := x_pos (show r_2.1 = 0 from Decidable.byContradiction (fun h9 => c_3 h9)) hf
    refine sh_aload (i' := 0) (n := 1) i52_11 (Or.inr ⟨rfl, by decide⟩) rfl ?_
    refine ev_do i52_12 rfl ?_
    obtain ⟨h_4, eh_4, hf⟩ := x_bind hf
    refine sh_put i52_13 f52_49 (by decide) rfl eh_4 ?_
    exact j52_16_ok hd hf
end
section
def l54_3  : Nat → Option Nat → Option Nat → Int32 → Int32 → Int32 → xH → Option xH
  | 0 => fun _ _ _ _ _ _ => none
  | n + 1 => fun o0 o1 x2 x3 x4 h => (if x3 ≤ x4 then some h else (xcv h o1 9).bind fun _ => (fn96 o1 x4 h).bind fun r_2 => (xcv r_2.2 o0 5).bind fun _ => (fn52 o0 r_2.1 r_2.2).bind fun h_3 => l54_3 n o0 o1 x2 x3 (x4 + 1) h_3)
theorem l54_3_ok {xs : List Int32} {d : Nat} (hd : 3 ≤ d) : ∀ (n : Nat) {o0 : Option Nat} {o1 : Option Nat} {x2 : Int32} {x3 : Int32} {x4 : Int32} {h : xH} {r : xH}, l54_3 n o0 o1 x2 x3 x4 h = some r → xEv (xTa xs) d 54 (3, [xrv o0, xrv o1, .int x2, .int x3, .int x4], [], h) (none, r) := by
  intro n
  induction n with
  | zero => intros; rename_i hf; cases hf
  | succ n ih =>
    intro o0 o1 x2 x3 x4 h r hf
    replace hf : ((if x3 ≤ x4 then some h else (xcv h o1 9).bind fun _ => (fn96 o1 x4 h).bind fun r_2 => (xcv r_2.2 o0 5).bind fun _ => (fn52 o0 r_2.1 r_2.2).bind fun h_3 => l54_3 n o0 o1 x2 x3 (x4 + 1) h_3)) = some r := hf
    refine ev_do i54_3 rfl ?_
    refine ev_do i54_5 rfl ?_
    refine ev_icmp (t := 25) i54_6 rfl (fun c_1 => ?_) (fun c_1 => ?_)
    · replace hf := x_pos (show x3 ≤ x4 from c_1) hf
      obtain rfl := Option.some.inj hf
      exact sh_vret i54_25 m54 rfl
    · replace hf := x_neg (show ¬ x3 ≤ x4 from c_1) hf
      refine sh_aload (i' := 0) (n := 1) i54_9 (Or.inr ⟨rfl, by decide⟩) rfl ?_
      refine sh_aload (i' := 1) (n := 1) i54_10 (Or.inr ⟨rfl, by decide⟩) rfl ?_
      refine ev_do i54_11 rfl ?_
      obtain ⟨_, eu_5, hf⟩ := x_bind hf
      obtain ⟨r_2, er_2, hf⟩ := x_bind hf
      refine sh_inv (as := [.int x4]) (z := (some (.int r_2.1), r_2.2)) i54_13 v54_60 (Or.inl ⟨by decide, rfl⟩) m96 rfl (by simp [xcat, xrv_cat, xc_i, xc_j, xc_a, xc_f]) eu_5 (fn96_call (by omega) er_2) ?_
      obtain ⟨_, eu_4, hf⟩ := x_bind hf
      obtain ⟨h_3, eh_3, hf⟩ := x_bind hf
      refine sh_inv (as := [.int r_2.1]) (z := (none, h_3)) i54_16 v54_57 (Or.inl ⟨by decide, rfl⟩) m52 rfl (Nat.le_of_ble_eq_true rfl) eu_4 (fn52_call (by omega) eh_3) ?_
      refine sh_inc (i' := 4) i54_19 rfl (xokst_of (Nat.le_of_ble_eq_true rfl) rfl) rfl ?_
      refine sh_goto (t := 3) i54_22 rfl ?_
      exact ih hf
def fn54 (o0 : Option Nat) (o1 : Option Nat) (x2 : Int32) (x3 : Int32) (h : xH) : Option xH := l54_3 xFuel o0 o1 x2 x3 x2 h
theorem fn54_call {xs : List Int32} {d : Nat} (hd : 4 ≤ d) {o0 : Option Nat} {o1 : Option Nat} {x2 : Int32} {x3 : Int32} {h : xH} {r : xH} (hf : fn54 o0 o1 x2 x3 h = some r) : xCall (xTa xs) d 54 [xrv o0, xrv o1, .int x2, .int x3] h (none, r) := by
  obtain ⟨d, rfl⟩ : ∃ d2, d = d2 + 1 := ⟨d - 1, by omega⟩
  replace hd : 3 ≤ d := by omega
  refine call_of2 (fl := [xrv o0, xrv o1, .int x2, .int x3]) (Ls := [xrv o0, xrv o1, .int x2, .int x3, .float 0]) m54 (by simp [xfl, xrv_cat, xc_i, xc_j, xc_a, xc_f]) (Nat.le_of_ble_eq_true rfl) rfl ?_
  unfold fn54 at hf
  refine ev_do i54_0 rfl ?_
  refine sh_istore (i' := 4) (n := 2) i54_1 (Or.inl rfl) (xokst_of (Nat.le_of_ble_eq_true rfl) rfl) ?_
  exact l54_3_ok hd xFuel hf
end
section
def j55_35  (o0 : Option Nat) (o1 : Option Nat) (h : xH) : Option xH := (xgR h o1 2 1).bind fun a_1 => (xgR h o1 2 1).bind fun a_2 => (xgI h a_2 9 1).bind fun v_3 => (xcv h o0 5).bind fun _ => (fn54 o0 a_1 0 v_3 h).bind fun h_4 => some h_4
theorem j55_35_ok {xs : List Int32} {d : Nat} (hd : 4 ≤ d) {o0 : Option Nat} {o1 : Option Nat} {h : xH} {r : xH} (hf : j55_35 o0 o1 h = some r) : xEv (xTa xs) d 55 (35, [xrv o0, xrv o1], [], h) (none, r) := by
  unfold j55_35 at hf
  refine sh_aload (i' := 0) (n := 1) i55_35 (Or.inr ⟨rfl, by decide⟩) rfl ?_
  refine sh_aload (i' := 1) (n := 1) i55_36 (Or.inr ⟨rfl, by decide⟩) rfl ?_
  obtain ⟨a_1, ea_1, hf⟩ := x_bind hf
  refine sh_getR i55_37 f55_68 ea_1 ?_
  refine ev_do i55_40 rfl ?_
  refine sh_aload (i' := 1) (n := 1) i55_41 (Or.inr ⟨rfl, by decide⟩) rfl ?_
  obtain ⟨a_2, ea_2, hf⟩ := x_bind hf
  refine sh_getR i55_42 f55_68 ea_2 ?_
  obtain ⟨v_3, ev_3, hf⟩ := x_bind hf
  refine sh_getI i55_45 f55_71 ev_3 ?_
  obtain ⟨_, eu_5, hf⟩ := x_bind hf
  obtain ⟨h_4, eh_4, hf⟩ := x_bind hf
  refine sh_inv (as := [.int v_3, .int 0, xrv a_1]) (z := (none, h_4)) i55_48 v55_74 (Or.inl ⟨by decide, rfl⟩) m54 rfl (Nat.le_of_ble_eq_true rfl) eu_5 (fn54_call (by omega) eh_4) ?_
  obtain rfl := Option.some.inj hf
  exact sh_vret i55_51 m55 rfl
def fn55 (o0 : Option Nat) (o1 : Option Nat) (h : xH) : Option xH := (xgR h o1 2 2).bind fun a_1 => (if a_1 = none then j55_35 o0 o1 h else (xgR h o1 2 2).bind fun a_3 => (xgR h a_3 2 1).bind fun a_4 => (xgR h o1 2 2).bind fun a_5 => (xgR h a_5 2 1).bind fun a_6 => (xgI h a_6 9 1).bind fun v_7 => (xcv h o0 5).bind fun _ => (fn54 o0 a_4 0 v_7 h).bind fun h_8 => (xcv h_8 o0 5).bind fun _ => (fn52 o0 46 h_8).bind fun h_9 => j55_35 o0 o1 h_9)
theorem fn55_call {xs : List Int32} {d : Nat} (hd : 5 ≤ d) {o0 : Option Nat} {o1 : Option Nat} {h : xH} {r : xH} (hf : fn55 o0 o1 h = some r) : xCall (xTa xs) d 55 [xrv o0, xrv o1] h (none, r) := by
  obtain ⟨d, rfl⟩ : ∃ d2, d = d2 + 1 := ⟨d - 1, by omega⟩
  replace hd : 4 ≤ d := by omega
  refine call_of2 (fl := [xrv o0, xrv o1]) (Ls := [xrv o0, xrv o1]) m55 (by simp [xfl, xrv_cat, xc_i, xc_j, xc_a, xc_f]) (Nat.le_of_ble_eq_true rfl) rfl ?_
  unfold fn55 at hf
  refine sh_aload (i' := 1) (n := 1) i55_0 (Or.inr ⟨rfl, by decide⟩) rfl ?_
  obtain ⟨a_1, ea_1, hf⟩ := x_bind hf
  refine sh_getR i55_1 f55_64 ea_1 ?_
  refine sh_null (t := 35) i55_4 rfl (fun c_2 => ?_) (fun c_2 => ?_)
  · replace hf := x_pos c_2 hf
    exact j55_35_ok hd hf
  · replace hf := x_neg c_2 hf
    refine sh_aload (i' := 0) (n := 1) i55_7 (Or.inr ⟨rfl, by decide⟩) rfl ?_
    refine sh_aload (i' := 1) (n := 1) i55_8 (Or.inr ⟨rfl, by decide⟩) rfl ?_
    obtain ⟨a_3, ea_3, hf⟩ := x_bind hf
    refine sh_getR i55_9 f55_64 ea_3 ?_
    obtain ⟨a_4, ea_4, hf⟩ := x_bind hf
    refine sh_getR i55_12 f55_68 ea_4 ?_
    refine ev_do i55_15 rfl ?_
    refine sh_aload (i' := 1) (n := 1) i55_16 (Or.inr ⟨rfl, by decide⟩) rfl ?_
    obtain ⟨a_5, ea_5, hf⟩ := x_bind hf
    refine sh_getR i55_17 f55_64 ea_5 ?_
    obtain ⟨a_6, ea_6, hf⟩ := x_bind hf
    refine sh_getR i55_20 f55_68 ea_6 ?_
    obtain ⟨v_7, ev_7, hf⟩ := x_bind hf
    refine sh_getI i55_23 f55_71 ev_7 ?_
    obtain ⟨_, eu_11, hf⟩ := x_bind hf
    obtain ⟨h_8, eh_8, hf⟩ := x_bind hf
    refine sh_inv (as := [.int v_7, .int 0, xrv a_4]) (z := (none, h_8)) i55_26 v55_74 (Or.inl ⟨by decide, rfl⟩) m54 rfl (Nat.le_of_ble_eq_true rfl) eu_11 (fn54_call (by omega) eh_8) ?_
    refine sh_aload (i' := 0) (n := 1) i55_29 (Or.inr ⟨rfl, by decide⟩) rfl ?_
    refine ev_do i55_30 rfl ?_
    obtain ⟨_, eu_10, hf⟩ := x_bind hf
    obtain ⟨h_9, eh_9, hf⟩ := x_bind hf
    refine sh_inv (as := [.int 46]) (z := (none, h_9)) i55_32 v55_57 (Or.inl ⟨by decide, rfl⟩) m52 rfl (Nat.le_of_ble_eq_true rfl) eu_10 (fn52_call (by omega) eh_9) ?_
    exact j55_35_ok hd hf
end
section
def fn56 (o0 : Option Nat) (h : xH) : Option xH := (xgI h o0 5 3).bind fun v_1 => (xgR h o0 5 1).bind fun a_2 => (xaN h a_2).bind fun v_3 => (if v_1 < v_3 then (xgR h o0 5 1).bind fun a_5 => (xgI h o0 5 3).bind fun v_6 => (xgI h o0 5 7).bind fun v_7 => (xaS h 13 (fun x => x) a_5 v_6 v_7).bind fun h_8 => (xgI h_8 o0 5 3).bind fun v_9 => (xpF h_8 o0 5 3 .int (.int (v_9 + 1))).bind fun h_10 => (xgI h_10 o0 5 6).bind fun v_11 => (xgR h_10 o0 5 0).bind fun a_12 => (xgI h_10 a_12 9 1).bind fun v_13 => (xgI h_10 o0 5 7).bind fun v_14 => (xpF h_10 o0 5 6 .int (.int (xmax v_11 (v_13 - v_14)))).bind fun h_15 => (xcv h_15 o0 5).bind fun _ => (fn52 o0 10 h_15).bind fun h_16 => (xgR h_16 o0 5 0).bind fun a_17 => (xgI h_16 a_17 9 1).bind fun v_18 => (xpF h_16 o0 5 7 .int (.int v_18)).bind fun h_19 => some h_19 else (xpF h o0 5 8 .boolean (.int 1)).bind fun h_21 => some h_21)
theorem fn56_call {xs : List Int32} {d : Nat} (hd : 4 ≤ d) {o0 : Option Nat} {h : xH} {r : xH} (hf : fn56 o0 h = some r) : xCall (xTa xs) d 56 [xrv o0] h (none, r) := by
  obtain ⟨d, rfl⟩ : ∃ d2, d = d2 + 1 := ⟨d - 1, by omega⟩
  replace hd : 3 ≤ d := by omega
  refine call_of2 (fl := [xrv o0]) (Ls := [xrv o0]) m56 (by simp [xfl, xrv_cat, xc_i, xc_j, xc_a, xc_f]) (Nat.le_of_ble_eq_true rfl) rfl ?_
  unfold fn56 at hf
  refine sh_aload (i' := 0) (n := 1) i56_0 (Or.inr ⟨rfl, by decide⟩) rfl ?_
  obtain ⟨v_1, ev_1, hf⟩ := x_bind hf
  refine sh_getI i56_1 f56_33 ev_1 ?_
  refine sh_aload (i' := 0) (n := 1) i56_4 (Or.inr ⟨rfl, by decide⟩) rfl ?_
  obtain ⟨a_2, ea_2, hf⟩ := x_bind hf
  refine sh_getR i56_5 f56_20 ea_2 ?_
  obtain ⟨v_3, ev_3, hf⟩ := x_bind hf
  refine sh_len i56_8 ev_3 ?_
  refine ev_icmp (t := 18) i56_9 rfl (fun c_4 => ?_) (fun c_4 => ?_)
  · replace hf := x_pos (show v_1 < v_3 from c_4) hf
    refine sh_aload (i' := 0) (n := 1) i56_18 (Or.inr ⟨rfl, by decide⟩) rfl ?_
    obtain ⟨a_5, ea_5, hf⟩ := x_bind hf
    refine sh_getR i56_19 f56_20 ea_5 ?_
    refine sh_aload (i' := 0) (n := 1) i56_22 (Or.inr ⟨rfl, by decide⟩) rfl ?_
    obtain ⟨v_6, ev_6, hf⟩ := x_bind hf
    refine sh_getI i56_23 f56_33 ev_6 ?_
    refine sh_aload (i' := 0) (n := 1) i56_26 (Or.inr ⟨rfl, by decide⟩) rfl ?_
    obtain ⟨v_7, ev_7, hf⟩ := x_bind hf
    refine sh_getI i56_27 f56_46 ev_7 ?_
    obtain ⟨h_8, eh_8, hf⟩ := x_bind hf
    refine sh_ast (tg := 13) i56_30 (Or.inl ⟨rfl, rfl, rfl⟩) eh_8 ?_
    refine sh_aload (i' := 0) (n := 1) i56_31 (Or.inr ⟨rfl, by decide⟩) rfl ?_
    refine sh_dup i56_32 (xrv_cat (o0)) ?_
    obtain ⟨v_9, ev_9, hf⟩ := x_bind hf
    refine sh_getI i56_33 f56_33 ev_9 ?_
    refine ev_do i56_36 rfl ?_
    refine ev_do i56_37 rfl ?_
    obtain ⟨h_10, eh_10, hf⟩ := x_bind hf
    refine sh_put i56_38 f56_33 (by decide) rfl eh_10 ?_
    refine sh_aload (i' := 0) (n := 1) i56_41 (Or.inr ⟨rfl, by decide⟩) rfl ?_
    refine sh_aload (i' := 0) (n := 1) i56_42 (Or.inr ⟨rfl, by decide⟩) rfl ?_
    obtain ⟨v_11, ev_11, hf⟩ := x_bind hf
    refine sh_getI i56_43 f56_43 ev_11 ?_
    refine sh_aload (i' := 0) (n := 1) i56_46 (Or.inr ⟨rfl, by decide⟩) rfl ?_
    obtain ⟨a_12, ea_12, hf⟩ := x_bind hf
    refine sh_getR i56_47 f56_14 ea_12 ?_
    obtain ⟨v_13, ev_13, hf⟩ := x_bind hf
    refine sh_getI i56_50 f56_71 ev_13 ?_
    refine sh_aload (i' := 0) (n := 1) i56_53 (Or.inr ⟨rfl, by decide⟩) rfl ?_
    obtain ⟨v_14, ev_14, hf⟩ := x_bind hf
    refine sh_getI i56_54 f56_46 ev_14 ?_
    refine ev_do i56_57 rfl ?_
    refine sh_max i56_58 v56_78 (by simp [xcat, xrv_cat, xc_i, xc_j, xc_a, xc_f]) ?_
    obtain ⟨h_15, eh_15, hf⟩ := x_bind hf
    refine sh_put i56_61 f56_43 (by decide) rfl eh_15 ?_
    refine sh_aload (i' := 0) (n := 1) i56_64 (Or.inr ⟨rfl, by decide⟩) rfl ?_
    refine ev_do i56_65 rfl ?_
    obtain ⟨_, eu_20, hf⟩ := x_bind hf
    obtain ⟨h_16, eh_16, hf⟩ := x_bind hf
    refine sh_inv (as := [.int 10]) (z := (none, h_16)) i56_67 v56_57 (Or.inl ⟨by decide, rfl⟩) m52 rfl (Nat.le_of_ble_eq_true rfl) eu_20 (fn52_call (by omega) eh_16) ?_
    refine sh_aload (i' := 0) (n := 1) i56_70 (Or.inr ⟨rfl, by decide⟩) rfl ?_
    refine sh_aload (i' := 0) (n := 1) i56_71 (Or.inr ⟨rfl, by decide⟩) rfl ?_
    obtain ⟨a_17, ea_17, hf⟩ := x_bind hf
    refine sh_getR i56_72 f56_14 ea_17 ?_
    obtain ⟨v_18, ev_18, hf⟩ := x_bind hf
    refine sh_getI i56_75 f56_71 ev_18 ?_
    obtain ⟨h_19, eh_19, hf⟩ := x_bind hf
    refine sh_put i56_78 f56_46 (by decide) rfl eh_19 ?_
    obtain rfl := Option.some.inj hf
    exact sh_vret i56_81 m56 rfl
  · replace hf := x_neg (show ¬ v_1 < v_3 from c_4) hf
    refine sh_aload (i' := 0) (n := 1) i56_12 (Or.inr ⟨rfl, by decide⟩) rfl ?_
    refine ev_do i56_13 rfl ?_
    obtain ⟨h_21, eh_21, hf⟩ := x_bind hf
    refine sh_put i56_14 f56_49 (by decide) rfl eh_21 ?_
    obtain rfl := Option.some.inj hf
    exact sh_vret i56_17 m56 rfl
end
section
def j57_25  (o0 : Option Nat) (x1 : Int32) (s0 : Option Nat) (h : xH) : Option (Option Nat × xH) := some (s0, h)
theorem j57_25_ok {xs : List Int32} {d : Nat} (hd : 1 ≤ d) {o0 : Option Nat} {x1 : Int32} {s0 : Option Nat} {h : xH} {r : (Option Nat × xH)} (hf : j57_25 o0 x1 s0 h = some r) : xEv (xTa xs) d 57 (25, [xrv o0, .int x1], [xrv s0], h) (some (xrv r.1), r.2) := by
  unfold j57_25 at hf
  obtain rfl := Option.some.inj hf
  exact sh_aret i57_25 m57 rfl
def j57_13  (o0 : Option Nat) (x1 : Int32) (h : xH) : Option (Option Nat × xH) := j57_25 o0 x1 none h
theorem j57_13_ok {xs : List Int32} {d : Nat} (hd : 1 ≤ d) {o0 : Option Nat} {x1 : Int32} {h : xH} {r : (Option Nat × xH)} (hf : j57_13 o0 x1 h = some r) : xEv (xTa xs) d 57 (13, [xrv o0, .int x1], [], h) (some (xrv r.1), r.2) := by
  unfold j57_13 at hf
  refine sh_cnull i57_13 ?_
  refine sh_goto (t := 25) i57_14 rfl ?_
  exact j57_25_ok hd hf
def fn57 (o0 : Option Nat) (x1 : Int32) (h : xH) : Option (Option Nat × xH) := (if x1 < 1 then j57_13 o0 x1 h else (xgI h o0 5 4).bind fun v_2 => (if x1 ≤ v_2 then (xgR h o0 5 2).bind fun a_4 => (xaR h a_4 (x1 - 1)).bind fun a_5 => j57_25 o0 x1 a_5 h else j57_13 o0 x1 h))
theorem fn57_call {xs : List Int32} {d : Nat} (hd : 2 ≤ d) {o0 : Option Nat} {x1 : Int32} {h : xH} {r : (Option Nat × xH)} (hf : fn57 o0 x1 h = some r) : xCall (xTa xs) d 57 [xrv o0, .int x1] h (some (xrv r.1), r.2) := by
  obtain ⟨d, rfl⟩ : ∃ d2, d = d2 + 1 := ⟨d - 1, by omega⟩
  replace hd : 1 ≤ d := by omega
  refine call_of2 (fl := [xrv o0, .int x1]) (Ls := [xrv o0, .int x1]) m57 (by simp [xfl, xrv_cat, xc_i, xc_j, xc_a, xc_f]) (Nat.le_of_ble_eq_true rfl) rfl ?_
  unfold fn57 at hf
  refine ev_do i57_0 rfl ?_
  refine ev_do i57_1 rfl ?_
  refine ev_icmp (t := 13) i57_2 rfl (fun c_1 => ?_) (fun c_1 => ?_)
  · replace hf := x_pos (show x1 < 1 from c_1) hf
    exact j57_13_ok hd hf
  · replace hf := x_neg (show ¬ x1 < 1 from c_1) hf
    refine ev_do i57_5 rfl ?_
    refine sh_aload (i' := 0) (n := 1) i57_6 (Or.inr ⟨rfl, by decide⟩) rfl ?_
    obtain ⟨v_2, ev_2, hf⟩ := x_bind hf
    refine sh_getI i57_7 f57_37 ev_2 ?_
    refine ev_icmp (t := 17) i57_10 rfl (fun c_3 => ?_) (fun c_3 => ?_)
    · replace hf := x_pos (show x1 ≤ v_2 from c_3) hf
      refine sh_aload (i' := 0) (n := 1) i57_17 (Or.inr ⟨rfl, by decide⟩) rfl ?_
      obtain ⟨a_4, ea_4, hf⟩ := x_bind hf
      refine sh_getR i57_18 f57_26 ea_4 ?_
      refine ev_do i57_21 rfl ?_
      refine ev_do i57_22 rfl ?_
      refine ev_do i57_23 rfl ?_
      obtain ⟨a_5, ea_5, hf⟩ := x_bind hf
      refine sh_aldR i57_24 ea_5 ?_
      exact j57_25_ok hd hf
    · replace hf := x_neg (show ¬ x1 ≤ v_2 from c_3) hf
      exact j57_13_ok hd hf
end
