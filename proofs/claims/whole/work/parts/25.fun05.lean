section
def j44_77 (k25 : Option Nat → Option Nat → Option Nat → Int32 → xH → Option xH) (o0 : Option Nat) (o1 : Option Nat) (o2 : Option Nat) (x3 : Int32) (o4 : Option Nat) (h : xH) : Option xH := k25 o0 o1 o2 (x3 + 1) h
theorem j44_77_ok {xs : List Int32} {d : Nat} (hd : 2 ≤ d) {k25 : Option Nat → Option Nat → Option Nat → Int32 → xH → Option xH} (hk25 : ∀ {u4 : Value} {o0 : Option Nat} {o1 : Option Nat} {o2 : Option Nat} {x3 : Int32} {h : xH} {r : xH}, u4.category = 1 → k25 o0 o1 o2 x3 h = some r → xEv (xTa xs) d 44 (25, [xrv o0, xrv o1, xrv o2, .int x3, u4], [], h) (none, r)) {o0 : Option Nat} {o1 : Option Nat} {o2 : Option Nat} {x3 : Int32} {o4 : Option Nat} {h : xH} {r : xH} (hf : j44_77 k25 o0 o1 o2 x3 o4 h = some r) : xEv (xTa xs) d 44 (77, [xrv o0, xrv o1, xrv o2, .int x3, xrv o4], [], h) (none, r) := by
  unfold j44_77 at hf
  refine sh_inc (i' := 3) i44_77 rfl (xokst_of (Nat.le_of_ble_eq_true rfl) (xrv_cat (o2))) rfl ?_
  refine sh_goto (t := 25) i44_80 rfl ?_
  exact hk25 (xrv_cat (o4)) hf
def l44_25  : Nat → Option Nat → Option Nat → Option Nat → Int32 → xH → Option xH
  | 0 => fun _ _ _ _ _ => none
  | n + 1 => fun o0 o1 o2 x3 h => (xgI h o2 0 5).bind fun v_1 => (if v_1 ≤ x3 then some h else (xgI h o2 0 4).bind fun v_3 => (xcv h o1 1).bind fun _ => (fn6 o1 (v_3 + x3) h).bind fun r_4 => (if r_4.1 = none then j44_77 (l44_25 n) o0 o1 o2 x3 r_4.1 r_4.2 else (xgI r_4.2 r_4.1 6 0).bind fun v_6 => (if v_6 = 2 then (xgR r_4.2 r_4.1 6 7).bind fun a_8 => (if a_8 = none then (xgI r_4.2 r_4.1 6 1).bind fun v_10 => (xcv r_4.2 o0 4).bind fun _ => (fn41 o0 2 v_10 r_4.2).bind fun h_11 => j44_77 (l44_25 n) o0 o1 o2 x3 r_4.1 h_11 else j44_77 (l44_25 n) o0 o1 o2 x3 r_4.1 r_4.2) else j44_77 (l44_25 n) o0 o1 o2 x3 r_4.1 r_4.2)))
theorem l44_25_ok {xs : List Int32} {d : Nat} (hd : 2 ≤ d) : ∀ (n : Nat) {u4 : Value} {o0 : Option Nat} {o1 : Option Nat} {o2 : Option Nat} {x3 : Int32} {h : xH} {r : xH} (hu4 : u4.category = 1), l44_25 n o0 o1 o2 x3 h = some r → xEv (xTa xs) d 44 (25, [xrv o0, xrv o1, xrv o2, .int x3, u4], [], h) (none, r) := by
  intro n
  induction n with
  | zero => intros; rename_i hf; cases hf
  | succ n ih =>
    intro u4 o0 o1 o2 x3 h r hu4 hf
    replace hf : ((xgI h o2 0 5).bind fun v_1 => (if v_1 ≤ x3 then some h else (xgI h o2 0 4).bind fun v_3 => (xcv h o1 1).bind fun _ => (fn6 o1 (v_3 + x3) h).bind fun r_4 => (if r_4.1 = none then j44_77 (l44_25 n) o0 o1 o2 x3 r_4.1 r_4.2 else (xgI r_4.2 r_4.1 6 0).bind fun v_6 => (if v_6 = 2 then (xgR r_4.2 r_4.1 6 7).bind fun a_8 => (if a_8 = none then (xgI r_4.2 r_4.1 6 1).bind fun v_10 => (xcv r_4.2 o0 4).bind fun _ => (fn41 o0 2 v_10 r_4.2).bind fun h_11 => j44_77 (l44_25 n) o0 o1 o2 x3 r_4.1 h_11 else j44_77 (l44_25 n) o0 o1 o2 x3 r_4.1 r_4.2) else j44_77 (l44_25 n) o0 o1 o2 x3 r_4.1 r_4.2)))) = some r := hf
    refine ev_do i44_25 rfl ?_
    refine sh_aload (i' := 2) (n := 1) i44_26 (Or.inr ⟨rfl, by decide⟩) rfl ?_
    obtain ⟨v_1, ev_1, hf⟩ := x_bind hf
    refine sh_getI i44_27 f44_89 ev_1 ?_
    refine ev_icmp (t := 83) i44_30 rfl (fun c_2 => ?_) (fun c_2 => ?_)
    · replace hf := x_pos (show v_1 ≤ x3 from c_2) hf
      obtain rfl := Option.some.inj hf
      exact sh_vret i44_83 m44 rfl
    · replace hf := x_neg (show ¬ v_1 ≤ x3 from c_2) hf
      refine sh_aload (i' := 1) (n := 1) i44_33 (Or.inr ⟨rfl, by decide⟩) rfl ?_
      refine sh_aload (i' := 2) (n := 1) i44_34 (Or.inr ⟨rfl, by decide⟩) rfl ?_
      obtain ⟨v_3, ev_3, hf⟩ := x_bind hf
      refine sh_getI i44_35 f44_92 ev_3 ?_
      refine ev_do i44_38 rfl ?_
      refine ev_do i44_39 rfl ?_
      obtain ⟨_, eu_13, hf⟩ := x_bind hf
      obtain ⟨r_4, er_4, hf⟩ := x_bind hf
      refine sh_inv (as := [.int (v_3 + x3)]) (z := (some (xrv r_4.1), r_4.2)) i44_40 v44_95 (Or.inl ⟨by decide, rfl⟩) m6 rfl (Nat.le_of_ble_eq_true rfl) eu_13 (fn6_call (by omega) er_4) ?_
      refine sh_astore (i' := 4) (n := 2) i44_43 (Or.inl rfl) (xokst_of (Nat.le_of_ble_eq_true rfl) rfl) ?_
      refine sh_aload (i' := 4) (n := 2) i44_45 (Or.inl rfl) rfl ?_
      refine sh_null (t := 77) i44_47 rfl (fun c_5 => ?_) (fun c_5 => ?_)
      · replace hf := x_pos c_5 hf
        exact j44_77_ok hd ih hf
      · replace hf := x_neg c_5 hf
        refine sh_aload (i' := 4) (n := 2) i44_50 (Or.inl rfl) rfl ?_
        obtain ⟨v_6, ev_6, hf⟩ := x_bind hf
        refine sh_getI i44_52 f44_99 ev_6 ?_
        refine ev_do i44_55 rfl ?_
        refine ev_icmp (t := 77) i44_56 rfl (fun c_7 => ?_) (fun c_7 => ?_)
        · replace hf := x_neg (show ¬ v_6 = 2 from c_7) hf
          exact j44_77_ok hd ih hf
        · replace hf := x_pos (show v_6 = 2 from Decidable.byContradiction (fun h9 => c_7 h9)) hf
          refine sh_aload (i' := 4) (n := 2) i44_59 (Or.inl rfl) rfl ?_
          obtain ⟨a_8, ea_8, hf⟩ := x_bind hf
          refine sh_getR i44_61 f44_104 ea_8 ?_
          refine sh_nnul (t := 77) i44_64 rfl (fun c_9 => ?_) (fun c_9 => ?_)
          · replace hf := x_pos c_9 hf
            refine sh_aload (i' := 0) (n := 1) i44_67 (Or.inr ⟨rfl, by decide⟩) rfl ?_
            refine ev_do i44_68 rfl ?_
            refine sh_aload (i' := 4) (n := 2) i44_69 (Or.inl rfl) rfl ?_
            obtain ⟨v_10, ev_10, hf⟩ := x_bind hf
            refine sh_getI i44_71 f44_105 ev_10 ?_
            obtain ⟨_, eu_12, hf⟩ := x_bind hf
            obtain ⟨h_11, eh_11, hf⟩ := x_bind hf
            refine sh_inv (as := [.int v_10, .int 2]) (z := (none, h_11)) i44_74 v44_28 (Or.inl ⟨by decide, rfl⟩) m41 rfl (Nat.le_of_ble_eq_true rfl) eu_12 (fn41_call (by omega) eh_11) ?_
            exact j44_77_ok hd ih hf
          · replace hf := x_neg c_9 hf
            exact j44_77_ok hd ih hf
def j44_23  (o0 : Option Nat) (o1 : Option Nat) (o2 : Option Nat) (h : xH) : Option xH := l44_25 xFuel o0 o1 o2 0 h
theorem j44_23_ok {xs : List Int32} {d : Nat} (hd : 2 ≤ d) {u3 : Value} {u4 : Value} {o0 : Option Nat} {o1 : Option Nat} {o2 : Option Nat} {h : xH} {r : xH} (hu3 : u3.category = 1) (hu4 : u4.category = 1) (hf : j44_23 o0 o1 o2 h = some r) : xEv (xTa xs) d 44 (23, [xrv o0, xrv o1, xrv o2, u3, u4], [], h) (none, r) := by
  unfold j44_23 at hf
  refine ev_do i44_23 rfl ?_
  refine sh_istore (i' := 3) (n := 1) i44_24 (Or.inr ⟨rfl, by decide⟩) (xokst_of (Nat.le_of_ble_eq_true rfl) (xrv_cat (o2))) ?_
  exact l44_25_ok hd xFuel hu4 hf
def fn44 (o0 : Option Nat) (o1 : Option Nat) (o2 : Option Nat) (h : xH) : Option xH := (xcv h o2 0).bind fun _ => (fn1 o2 h).bind fun r_1 => (if r_1.1 = 0 then j44_23 o0 o1 o2 r_1.2 else (xgR r_1.2 o2 0 9).bind fun a_3 => (if a_3 = none then (xgI r_1.2 o2 0 2).bind fun v_5 => (xcv r_1.2 o0 4).bind fun _ => (fn41 o0 2 v_5 r_1.2).bind fun h_6 => j44_23 o0 o1 o2 h_6 else j44_23 o0 o1 o2 r_1.2))
theorem fn44_call {xs : List Int32} {d : Nat} (hd : 3 ≤ d) {o0 : Option Nat} {o1 : Option Nat} {o2 : Option Nat} {h : xH} {r : xH} (hf : fn44 o0 o1 o2 h = some r) : xCall (xTa xs) d 44 [xrv o0, xrv o1, xrv o2] h (none, r) := by
  obtain ⟨d, rfl⟩ : ∃ d2, d = d2 + 1 := ⟨d - 1, by omega⟩
  replace hd : 2 ≤ d := by omega
  refine call_of2 (fl := [xrv o0, xrv o1, xrv o2]) (Ls := [xrv o0, xrv o1, xrv o2, .float 0, .float 0]) m44 (by simp [xfl, xrv_cat, xc_i, xc_j, xc_a, xc_f]) (Nat.le_of_ble_eq_true rfl) rfl ?_
  unfold fn44 at hf
  refine sh_aload (i' := 2) (n := 1) i44_0 (Or.inr ⟨rfl, by decide⟩) rfl ?_
  obtain ⟨_, eu_8, hf⟩ := x_bind hf
  obtain ⟨r_1, er_1, hf⟩ := x_bind hf
  refine sh_inv (as := []) (z := (some (.int r_1.1), r_1.2)) i44_1 v44_76 (Or.inl ⟨by decide, rfl⟩) m1 rfl (Nat.le_of_ble_eq_true rfl) eu_8 (fn1_call (by omega) er_1) ?_
  refine ev_if (t := 23) i44_4 rfl (fun c_2 => ?_) (fun c_2 => ?_)
  · replace hf := x_pos (show r_1.1 = 0 from c_2) hf
    exact j44_23_ok hd rfl rfl hf
  · replace hf := x_neg (show ¬ r_1.1 = 0 from c_2) hf
    refine sh_aload (i' := 2) (n := 1) i44_7 (Or.inr ⟨rfl, by decide⟩) rfl ?_
    obtain ⟨a_3, ea_3, hf⟩ := x_bind hf
    refine sh_getR i44_8 f44_82 ea_3 ?_
    refine sh_nnul (t := 23) i44_11 rfl (fun c_4 => ?_) (fun c_4 => ?_)
    · replace hf := x_pos c_4 hf
      refine sh_aload (i' := 0) (n := 1) i44_14 (Or.inr ⟨rfl, by decide⟩) rfl ?_
      refine ev_do i44_15 rfl ?_
      refine sh_aload (i' := 2) (n := 1) i44_16 (Or.inr ⟨rfl, by decide⟩) rfl ?_
      obtain ⟨v_5, ev_5, hf⟩ := x_bind hf
      refine sh_getI i44_17 f44_86 ev_5 ?_
      obtain ⟨_, eu_7, hf⟩ := x_bind hf
      obtain ⟨h_6, eh_6, hf⟩ := x_bind hf
      refine sh_inv (as := [.int v_5, .int 2]) (z := (none, h_6)) i44_20 v44_28 (Or.inl ⟨by decide, rfl⟩) m41 rfl (Nat.le_of_ble_eq_true rfl) eu_7 (fn41_call (by omega) eh_6) ?_
      exact j44_23_ok hd rfl rfl hf
    · replace hf := x_neg c_4 hf
      exact j44_23_ok hd rfl rfl hf
end
section
def j43_36 (k2 : Option Nat → Option Nat → Option Nat → Int32 → xH → Option xH) (o0 : Option Nat) (o1 : Option Nat) (o2 : Option Nat) (x3 : Int32) (o4 : Option Nat) (h : xH) : Option xH := k2 o0 o1 o2 (x3 + 1) h
theorem j43_36_ok {xs : List Int32} {d : Nat} (hd : 6 ≤ d) {k2 : Option Nat → Option Nat → Option Nat → Int32 → xH → Option xH} (hk2 : ∀ {u4 : Value} {o0 : Option Nat} {o1 : Option Nat} {o2 : Option Nat} {x3 : Int32} {h : xH} {r : xH}, u4.category = 1 → k2 o0 o1 o2 x3 h = some r → xEv (xTa xs) d 43 (2, [xrv o0, xrv o1, xrv o2, .int x3, u4], [], h) (none, r)) {o0 : Option Nat} {o1 : Option Nat} {o2 : Option Nat} {x3 : Int32} {o4 : Option Nat} {h : xH} {r : xH} (hf : j43_36 k2 o0 o1 o2 x3 o4 h = some r) : xEv (xTa xs) d 43 (36, [xrv o0, xrv o1, xrv o2, .int x3, xrv o4], [], h) (none, r) := by
  unfold j43_36 at hf
  refine sh_inc (i' := 3) i43_36 rfl (xokst_of (Nat.le_of_ble_eq_true rfl) (xrv_cat (o2))) rfl ?_
  refine sh_goto (t := 2) i43_39 rfl ?_
  exact hk2 (xrv_cat (o4)) hf
def l43_2  : Nat → Option Nat → Option Nat → Option Nat → Int32 → xH → Option xH
  | 0 => fun _ _ _ _ _ => none
  | n + 1 => fun o0 o1 o2 x3 h => (xgI h o2 1 3).bind fun v_1 => (if v_1 ≤ x3 then some h else (xcv h o2 1).bind fun _ => (fn5 o2 x3 h).bind fun r_3 => (if r_3.1 = none then j43_36 (l43_2 n) o0 o1 o2 x3 r_3.1 r_3.2 else (xcv r_3.2 o1 8).bind fun _ => (fn94 o1 o2 r_3.1 r_3.2).bind fun h_5 => (xcv h_5 o0 4).bind fun _ => (fn44 o0 o2 r_3.1 h_5).bind fun h_6 => j43_36 (l43_2 n) o0 o1 o2 x3 r_3.1 h_6))
theorem l43_2_ok {xs : List Int32} {d : Nat} (hd : 6 ≤ d) : ∀ (n : Nat) {u4 : Value} {o0 : Option Nat} {o1 : Option Nat} {o2 : Option Nat} {x3 : Int32} {h : xH} {r : xH} (hu4 : u4.category = 1), l43_2 n o0 o1 o2 x3 h = some r → xEv (xTa xs) d 43 (2, [xrv o0, xrv o1, xrv o2, .int x3, u4], [], h) (none, r) := by
  intro n
  induction n with
  | zero => intros; rename_i hf; cases hf
  | succ n ih =>
    intro u4 o0 o1 o2 x3 h r hu4 hf
    replace hf : ((xgI h o2 1 3).bind fun v_1 => (if v_1 ≤ x3 then some h else (xcv h o2 1).bind fun _ => (fn5 o2 x3 h).bind fun r_3 => (if r_3.1 = none then j43_36 (l43_2 n) o0 o1 o2 x3 r_3.1 r_3.2 else (xcv r_3.2 o1 8).bind fun _ => (fn94 o1 o2 r_3.1 r_3.2).bind fun h_5 => (xcv h_5 o0 4).bind fun _ => (fn44 o0 o2 r_3.1 h_5).bind fun h_6 => j43_36 (l43_2 n) o0 o1 o2 x3 r_3.1 h_6))) = some r := hf
    refine ev_do i43_2 rfl ?_
    refine sh_aload (i' := 2) (n := 1) i43_3 (Or.inr ⟨rfl, by decide⟩) rfl ?_
    obtain ⟨v_1, ev_1, hf⟩ := x_bind hf
    refine sh_getI i43_4 f43_60 ev_1 ?_
    refine ev_icmp (t := 42) i43_7 rfl (fun c_2 => ?_) (fun c_2 => ?_)
    · replace hf := x_pos (show v_1 ≤ x3 from c_2) hf
      obtain rfl := Option.some.inj hf
      exact sh_vret i43_42 m43 rfl
    · replace hf := x_neg (show ¬ v_1 ≤ x3 from c_2) hf
      refine sh_aload (i' := 2) (n := 1) i43_10 (Or.inr ⟨rfl, by decide⟩) rfl ?_
      refine ev_do i43_11 rfl ?_
      obtain ⟨_, eu_9, hf⟩ := x_bind hf
      obtain ⟨r_3, er_3, hf⟩ := x_bind hf
      refine sh_inv (as := [.int x3]) (z := (some (xrv r_3.1), r_3.2)) i43_12 v43_65 (Or.inl ⟨by decide, rfl⟩) m5 rfl (Nat.le_of_ble_eq_true rfl) eu_9 (fn5_call (by omega) er_3) ?_
      refine sh_astore (i' := 4) (n := 2) i43_15 (Or.inl rfl) (xokst_of (Nat.le_of_ble_eq_true rfl) rfl) ?_
      refine sh_aload (i' := 4) (n := 2) i43_17 (Or.inl rfl) rfl ?_
      refine sh_null (t := 36) i43_19 rfl (fun c_4 => ?_) (fun c_4 => ?_)
      · replace hf := x_pos c_4 hf
        exact j43_36_ok hd ih hf
      · replace hf := x_neg c_4 hf
        refine sh_aload (i' := 1) (n := 1) i43_22 (Or.inr ⟨rfl, by decide⟩) rfl ?_
        refine sh_aload (i' := 2) (n := 1) i43_23 (Or.inr ⟨rfl, by decide⟩) rfl ?_
        refine sh_aload (i' := 4) (n := 2) i43_24 (Or.inl rfl) rfl ?_
        obtain ⟨_, eu_8, hf⟩ := x_bind hf
        obtain ⟨h_5, eh_5, hf⟩ := x_bind hf
        refine sh_inv (as := [xrv r_3.1, xrv o2]) (z := (none, h_5)) i43_26 v43_69 (Or.inl ⟨by decide, rfl⟩) m94 rfl (Nat.le_of_ble_eq_true rfl) eu_8 (fn94_call (by omega) eh_5) ?_
        refine sh_aload (i' := 0) (n := 1) i43_29 (Or.inr ⟨rfl, by decide⟩) rfl ?_
        refine sh_aload (i' := 2) (n := 1) i43_30 (Or.inr ⟨rfl, by decide⟩) rfl ?_
        refine sh_aload (i' := 4) (n := 2) i43_31 (Or.inl rfl) rfl ?_
        obtain ⟨_, eu_7, hf⟩ := x_bind hf
        obtain ⟨h_6, eh_6, hf⟩ := x_bind hf
        refine sh_inv (as := [xrv r_3.1, xrv o2]) (z := (none, h_6)) i43_33 v43_73 (Or.inl ⟨by decide, rfl⟩) m44 rfl (Nat.le_of_ble_eq_true rfl) eu_7 (fn44_call (by omega) eh_6) ?_
        exact j43_36_ok hd ih hf
def fn43 (o0 : Option Nat) (o1 : Option Nat) (o2 : Option Nat) (h : xH) : Option xH := l43_2 xFuel o0 o1 o2 0 h
theorem fn43_call {xs : List Int32} {d : Nat} (hd : 7 ≤ d) {o0 : Option Nat} {o1 : Option Nat} {o2 : Option Nat} {h : xH} {r : xH} (hf : fn43 o0 o1 o2 h = some r) : xCall (xTa xs) d 43 [xrv o0, xrv o1, xrv o2] h (none, r) := by
  obtain ⟨d, rfl⟩ : ∃ d2, d = d2 + 1 := ⟨d - 1, by omega⟩
  replace hd : 6 ≤ d := by omega
  refine call_of2 (fl := [xrv o0, xrv o1, xrv o2]) (Ls := [xrv o0, xrv o1, xrv o2, .float 0, .float 0]) m43 (by simp [xfl, xrv_cat, xc_i, xc_j, xc_a, xc_f]) (Nat.le_of_ble_eq_true rfl) rfl ?_
  unfold fn43 at hf
  refine ev_do i43_0 rfl ?_
  refine sh_istore (i' := 3) (n := 1) i43_1 (Or.inr ⟨rfl, by decide⟩) (xokst_of (Nat.le_of_ble_eq_true rfl) (xrv_cat (o2))) ?_
  exact l43_2_ok hd xFuel rfl hf
end
section
def j45_24  (o0 : Option Nat) (o1 : Option Nat) (o2 : Option Nat) (o3 : Option Nat) (h : xH) : Option xH := some h
theorem j45_24_ok {xs : List Int32} {d : Nat} (hd : 2 ≤ d) {o0 : Option Nat} {o1 : Option Nat} {o2 : Option Nat} {o3 : Option Nat} {h : xH} {r : xH} (hf : j45_24 o0 o1 o2 o3 h = some r) : xEv (xTa xs) d 45 (24, [xrv o0, xrv o1, xrv o2, xrv o3], [], h) (none, r) := by
  unfold j45_24 at hf
  obtain rfl := Option.some.inj hf
  exact sh_vret i45_24 m45 rfl
def fn45 (o0 : Option Nat) (o1 : Option Nat) (o2 : Option Nat) (h : xH) : Option xH := (xcv h o1 1).bind fun _ => (fn9 o1 7 h).bind fun r_1 => (if r_1.1 = none then j45_24 o0 o1 o2 r_1.1 r_1.2 else (if o2 = none then (xgI r_1.2 r_1.1 0 2).bind fun v_4 => (xcv r_1.2 o0 4).bind fun _ => (fn41 o0 3 v_4 r_1.2).bind fun h_5 => j45_24 o0 o1 o2 r_1.1 h_5 else j45_24 o0 o1 o2 r_1.1 r_1.2))
theorem fn45_call {xs : List Int32} {d : Nat} (hd : 3 ≤ d) {o0 : Option Nat} {o1 : Option Nat} {o2 : Option Nat} {h : xH} {r : xH} (hf : fn45 o0 o1 o2 h = some r) : xCall (xTa xs) d 45 [xrv o0, xrv o1, xrv o2] h (none, r) := by
  obtain ⟨d, rfl⟩ : ∃ d2, d = d2 + 1 := ⟨d - 1, by omega⟩
  replace hd : 2 ≤ d := by omega
  refine call_of2 (fl := [xrv o0, xrv o1, xrv o2]) (Ls := [xrv o0, xrv o1, xrv o2, .float 0]) m45 (by simp [xfl, xrv_cat, xc_i, xc_j, xc_a, xc_f]) (Nat.le_of_ble_eq_true rfl) rfl ?_
  unfold fn45 at hf
  refine sh_aload (i' := 1) (n := 1) i45_0 (Or.inr ⟨rfl, by decide⟩) rfl ?_
  refine ev_do i45_1 rfl ?_
  obtain ⟨_, eu_7, hf⟩ := x_bind hf
  obtain ⟨r_1, er_1, hf⟩ := x_bind hf
  refine sh_inv (as := [.int 7]) (z := (some (xrv r_1.1), r_1.2)) i45_3 v45_106 (Or.inl ⟨by decide, rfl⟩) m9 rfl (Nat.le_of_ble_eq_true rfl) eu_7 (fn9_call (by omega) er_1) ?_
  refine sh_astore (i' := 3) (n := 1) i45_6 (Or.inr ⟨rfl, by decide⟩) (xokst_of (Nat.le_of_ble_eq_true rfl) (xrv_cat (o2))) ?_
  refine sh_aload (i' := 3) (n := 1) i45_7 (Or.inr ⟨rfl, by decide⟩) rfl ?_
  refine sh_null (t := 24) i45_8 rfl (fun c_2 => ?_) (fun c_2 => ?_)
  · replace hf := x_pos c_2 hf
    exact j45_24_ok hd hf
  · replace hf := x_neg c_2 hf
    refine sh_aload (i' := 2) (n := 1) i45_11 (Or.inr ⟨rfl, by decide⟩) rfl ?_
    refine sh_nnul (t := 24) i45_12 rfl (fun c_3 => ?_) (fun c_3 => ?_)
    · replace hf := x_pos c_3 hf
      refine sh_aload (i' := 0) (n := 1) i45_15 (Or.inr ⟨rfl, by decide⟩) rfl ?_
      refine ev_do i45_16 rfl ?_
      refine sh_aload (i' := 3) (n := 1) i45_17 (Or.inr ⟨rfl, by decide⟩) rfl ?_
      obtain ⟨v_4, ev_4, hf⟩ := x_bind hf
      refine sh_getI i45_18 f45_86 ev_4 ?_
      obtain ⟨_, eu_6, hf⟩ := x_bind hf
      obtain ⟨h_5, eh_5, hf⟩ := x_bind hf
      refine sh_inv (as := [.int v_4, .int 3]) (z := (none, h_5)) i45_21 v45_28 (Or.inl ⟨by decide, rfl⟩) m41 rfl (Nat.le_of_ble_eq_true rfl) eu_6 (fn41_call (by omega) eh_5) ?_
      exact j45_24_ok hd hf
    · replace hf := x_neg c_3 hf
      exact j45_24_ok hd hf
end
section
def j46_62 (k2 : Option Nat → Option Nat → Option Nat → Int32 → xH → Option xH) (o0 : Option Nat) (o1 : Option Nat) (o2 : Option Nat) (x3 : Int32) (o4 : Option Nat) (h : xH) : Option xH := k2 o0 o1 o2 (x3 + 1) h
theorem j46_62_ok {xs : List Int32} {d : Nat} (hd : 3 ≤ d) {k2 : Option Nat → Option Nat → Option Nat → Int32 → xH → Option xH} (hk2 : ∀ {u4 : Value} {o0 : Option Nat} {o1 : Option Nat} {o2 : Option Nat} {x3 : Int32} {h : xH} {r : xH}, u4.category = 1 → k2 o0 o1 o2 x3 h = some r → xEv (xTa xs) d 46 (2, [xrv o0, xrv o1, xrv o2, .int x3, u4], [], h) (none, r)) {o0 : Option Nat} {o1 : Option Nat} {o2 : Option Nat} {x3 : Int32} {o4 : Option Nat} {h : xH} {r : xH} (hf : j46_62 k2 o0 o1 o2 x3 o4 h = some r) : xEv (xTa xs) d 46 (62, [xrv o0, xrv o1, xrv o2, .int x3, xrv o4], [], h) (none, r) := by
  unfold j46_62 at hf
  refine sh_inc (i' := 3) i46_62 rfl (xokst_of (Nat.le_of_ble_eq_true rfl) (xrv_cat (o2))) rfl ?_
  refine sh_goto (t := 2) i46_65 rfl ?_
  exact hk2 (xrv_cat (o4)) hf
def l46_2  : Nat → Option Nat → Option Nat → Option Nat → Int32 → xH → Option xH
  | 0 => fun _ _ _ _ _ => none
  | n + 1 => fun o0 o1 o2 x3 h => (xgI h o2 1 3).bind fun v_1 => (if v_1 ≤ x3 then some h else (xcv h o2 1).bind fun _ => (fn5 o2 x3 h).bind fun r_3 => (if r_3.1 = none then j46_62 (l46_2 n) o0 o1 o2 x3 r_3.1 r_3.2 else (xgI r_3.2 r_3.1 0 1).bind fun v_5 => (if v_5 = 2 then (xgR r_3.2 o2 1 0).bind fun a_7 => (xgI r_3.2 r_3.1 0 6).bind fun v_8 => (xgI r_3.2 r_3.1 0 7).bind fun v_9 => (xcv r_3.2 o1 2).bind fun _ => (fn16 o1 a_7 v_8 v_9 r_3.2).bind fun r_10 => (if r_10.1 = 0 then (xgI r_10.2 r_3.1 0 2).bind fun v_12 => (xcv r_10.2 o0 4).bind fun _ => (fn41 o0 4 v_12 r_10.2).bind fun h_13 => j46_62 (l46_2 n) o0 o1 o2 x3 r_3.1 h_13 else j46_62 (l46_2 n) o0 o1 o2 x3 r_3.1 r_10.2) else j46_62 (l46_2 n) o0 o1 o2 x3 r_3.1 r_3.2)))
theorem l46_2_ok {xs : List Int32} {d : Nat} (hd : 3 ≤ d) : ∀ (n : Nat) {u4 : Value} {o0 : Option Nat} {o1 : Option Nat} {o2 : Option Nat} {x3 : Int32} {h : xH} {r : xH} (hu4 : u4.category = 1), l46_2 n o0 o1 o2 x3 h = some r → xEv (xTa xs) d 46 (2, [xrv o0, xrv o1, xrv o2, .int x3, u4], [], h) (none, r) := by
  intro n
  induction n with
  | zero => intros; rename_i hf; cases hf
  | succ n ih =>
    intro u4 o0 o1 o2 x3 h r hu4 hf
    replace hf : ((xgI h o2 1 3).bind fun v_1 => (if v_1 ≤ x3 then some h else (xcv h o2 1).bind fun _ => (fn5 o2 x3 h).bind fun r_3 => (if r_3.1 = none then j46_62 (l46_2 n) o0 o1 o2 x3 r_3.1 r_3.2 else (xgI r_3.2 r_3.1 0 1).bind fun v_5 => (if v_5 = 2 then (xgR r_3.2 o2 1 0).bind fun a_7 => (xgI r_3.2 r_3.1 0 6).bind fun v_8 => (xgI r_3.2 r_3.1 0 7).bind fun v_9 => (xcv r_3.2 o1 2).bind fun _ => (fn16 o1 a_7 v_8 v_9 r_3.2).bind fun r_10 => (if r_10.1 = 0 then (xgI r_10.2 r_3.1 0 2).bind fun v_12 => (xcv r_10.2 o0 4).bind fun _ => (fn41 o0 4 v_12 r_10.2).bind fun h_13 => j46_62 (l46_2 n) o0 o1 o2 x3 r_3.1 h_13 else j46_62 (l46_2 n) o0 o1 o2 x3 r_3.1 r_10.2) else j46_62 (l46_2 n) o0 o1 o2 x3 r_3.1 r_3.2)))) = some r := hf
    refine ev_do i46_2 rfl ?_
    refine sh_aload (i' := 2) (n := 1) i46_3 (Or.inr ⟨rfl, by decide⟩) rfl ?_
    obtain ⟨v_1, ev_1, hf⟩ := x_bind hf
    refine sh_getI i46_4 f46_60 ev_1 ?_
    refine ev_icmp (t := 68) i46_7 rfl (fun c_2 => ?_) (fun c_2 => ?_)
    · replace hf := x_pos (show v_1 ≤ x3 from c_2) hf
      obtain rfl := Option.some.inj hf
      exact sh_vret i46_68 m46 rfl
    · replace hf := x_neg (show ¬ v_1 ≤ x3 from c_2) hf
      refine sh_aload (i' := 2) (n := 1) i46_10 (Or.inr ⟨rfl, by decide⟩) rfl ?_
      refine ev_do i46_11 rfl ?_
      obtain ⟨_, eu_16, hf⟩ := x_bind hf
      obtain ⟨r_3, er_3, hf⟩ := x_bind hf
      refine sh_inv (as := [.int x3]) (z := (some (xrv r_3.1), r_3.2)) i46_12 v46_65 (Or.inl ⟨by decide, rfl⟩) m5 rfl (Nat.le_of_ble_eq_true rfl) eu_16 (fn5_call (by omega) er_3) ?_
      refine sh_astore (i' := 4) (n := 2) i46_15 (Or.inl rfl) (xokst_of (Nat.le_of_ble_eq_true rfl) rfl) ?_
      refine sh_aload (i' := 4) (n := 2) i46_17 (Or.inl rfl) rfl ?_
      refine sh_null (t := 62) i46_19 rfl (fun c_4 => ?_) (fun c_4 => ?_)
      · replace hf := x_pos c_4 hf
        exact j46_62_ok hd ih hf
      · replace hf := x_neg c_4 hf
        refine sh_aload (i' := 4) (n := 2) i46_22 (Or.inl rfl) rfl ?_
        obtain ⟨v_5, ev_5, hf⟩ := x_bind hf
        refine sh_getI i46_24 f46_109 ev_5 ?_
        refine ev_do i46_27 rfl ?_
        refine ev_icmp (t := 62) i46_28 rfl (fun c_6 => ?_) (fun c_6 => ?_)
        · replace hf := x_neg (show ¬ v_5 = 2 from c_6) hf
          exact j46_62_ok hd ih hf
        · replace hf := x_pos (show v_5 = 2 from Decidable.byContradiction (fun h9 => c_6 h9)) hf
          refine sh_aload (i' := 1) (n := 1) i46_31 (Or.inr ⟨rfl, by decide⟩) rfl ?_
          refine sh_aload (i' := 2) (n := 1) i46_32 (Or.inr ⟨rfl, by decide⟩) rfl ?_
          obtain ⟨a_7, ea_7, hf⟩ := x_bind hf
          refine sh_getR i46_33 f46_110 ea_7 ?_
          refine sh_aload (i' := 4) (n := 2) i46_36 (Or.inl rfl) rfl ?_
          obtain ⟨v_8, ev_8, hf⟩ := x_bind hf
          refine sh_getI i46_38 f46_114 ev_8 ?_
          refine sh_aload (i' := 4) (n := 2) i46_41 (Or.inl rfl) rfl ?_
          obtain ⟨v_9, ev_9, hf⟩ := x_bind hf
          refine sh_getI i46_43 f46_117 ev_9 ?_
          obtain ⟨_, eu_15, hf⟩ := x_bind hf
          obtain ⟨r_10, er_10, hf⟩ := x_bind hf
          refine sh_inv (as := [.int v_9, .int v_8, xrv a_7]) (z := (some (.int r_10.1), r_10.2)) i46_46 v46_120 (Or.inl ⟨by decide, rfl⟩) m16 rfl (Nat.le_of_ble_eq_true rfl) eu_15 (fn16_call (by omega) er_10) ?_
          refine ev_if (t := 62) i46_49 rfl (fun c_11 => ?_) (fun c_11 => ?_)
          · replace hf := x_neg (show ¬ r_10.1 = 0 from c_11) hf
            exact j46_62_ok hd ih hf
          · replace hf := x_pos (show r_10.1 = 0 from Decidable.byContradiction (fun h9 => c_11 h9)) hf
            refine sh_aload (i' := 0) (n := 1) i46_52 (Or.inr ⟨rfl, by decide⟩) rfl ?_
            refine ev_do i46_53 rfl ?_
            refine sh_aload (i' := 4) (n := 2) i46_54 (Or.inl rfl) rfl ?_
            obtain ⟨v_12, ev_12, hf⟩ := x_bind hf
            refine sh_getI i46_56 f46_86 ev_12 ?_
            obtain ⟨_, eu_14, hf⟩ := x_bind hf
            obtain ⟨h_13, eh_13, hf⟩ := x_bind hf
            refine sh_inv (as := [.int v_12, .int 4]) (z := (none, h_13)) i46_59 v46_28 (Or.inl ⟨by decide, rfl⟩) m41 rfl (Nat.le_of_ble_eq_true rfl) eu_14 (fn41_call (by omega) eh_13) ?_
            exact j46_62_ok hd ih hf
def fn46 (o0 : Option Nat) (o1 : Option Nat) (o2 : Option Nat) (h : xH) : Option xH := l46_2 xFuel o0 o1 o2 0 h
theorem fn46_call {xs : List Int32} {d : Nat} (hd : 4 ≤ d) {o0 : Option Nat} {o1 : Option Nat} {o2 : Option Nat} {h : xH} {r : xH} (hf : fn46 o0 o1 o2 h = some r) : xCall (xTa xs) d 46 [xrv o0, xrv o1, xrv o2] h (none, r) := by
  obtain ⟨d, rfl⟩ : ∃ d2, d = d2 + 1 := ⟨d - 1, by omega⟩
  replace hd : 3 ≤ d := by omega
  refine call_of2 (fl := [xrv o0, xrv o1, xrv o2]) (Ls := [xrv o0, xrv o1, xrv o2, .float 0, .float 0]) m46 (by simp [xfl, xrv_cat, xc_i, xc_j, xc_a, xc_f]) (Nat.le_of_ble_eq_true rfl) rfl ?_
  unfold fn46 at hf
  refine ev_do i46_0 rfl ?_
  refine sh_istore (i' := 3) (n := 1) i46_1 (Or.inr ⟨rfl, by decide⟩) (xokst_of (Nat.le_of_ble_eq_true rfl) (xrv_cat (o2))) ?_
  exact l46_2_ok hd xFuel rfl hf
end
section
def j47_26  (o0 : Option Nat) (o1 : Option Nat) (o2 : Option Nat) (o3 : Option Nat) (h : xH) : Option xH := some h
theorem j47_26_ok {xs : List Int32} {d : Nat} (hd : 2 ≤ d) {o0 : Option Nat} {o1 : Option Nat} {o2 : Option Nat} {o3 : Option Nat} {h : xH} {r : xH} (hf : j47_26 o0 o1 o2 o3 h = some r) : xEv (xTa xs) d 47 (26, [xrv o0, xrv o1, xrv o2, xrv o3], [], h) (none, r) := by
  unfold j47_26 at hf
  obtain rfl := Option.some.inj hf
  exact sh_vret i47_26 m47 rfl
def fn47 (o0 : Option Nat) (o1 : Option Nat) (o2 : Option Nat) (h : xH) : Option xH := (xcv h o2 1).bind fun _ => (fn9 o2 3 h).bind fun r_1 => (if r_1.1 = none then j47_26 o0 o1 o2 r_1.1 r_1.2 else (xgI r_1.2 o1 2 4).bind fun v_3 => (if v_3 = 0 then (xgI r_1.2 r_1.1 0 2).bind fun v_5 => (xcv r_1.2 o0 4).bind fun _ => (fn41 o0 5 v_5 r_1.2).bind fun h_6 => j47_26 o0 o1 o2 r_1.1 h_6 else j47_26 o0 o1 o2 r_1.1 r_1.2))
theorem fn47_call {xs : List Int32} {d : Nat} (hd : 3 ≤ d) {o0 : Option Nat} {o1 : Option Nat} {o2 : Option Nat} {h : xH} {r : xH} (hf : fn47 o0 o1 o2 h = some r) : xCall (xTa xs) d 47 [xrv o0, xrv o1, xrv o2] h (none, r) := by
  obtain ⟨d, rfl⟩ : ∃ d2, d = d2 + 1 := ⟨d - 1, by omega⟩
  replace hd : 2 ≤ d := by omega
  refine call_of2 (fl := [xrv o0, xrv o1, xrv o2]) (Ls := [xrv o0, xrv o1, xrv o2, .float 0]) m47 (by simp [xfl, xrv_cat, xc_i, xc_j, xc_a, xc_f]) (Nat.le_of_ble_eq_true rfl) rfl ?_
  unfold fn47 at hf
  refine sh_aload (i' := 2) (n := 1) i47_0 (Or.inr ⟨rfl, by decide⟩) rfl ?_
  refine ev_do i47_1 rfl ?_
  obtain ⟨_, eu_8, hf⟩ := x_bind hf
  obtain ⟨r_1, er_1, hf⟩ := x_bind hf
  refine sh_inv (as := [.int 3]) (z := (some (xrv r_1.1), r_1.2)) i47_2 v47_106 (Or.inl ⟨by decide, rfl⟩) m9 rfl (Nat.le_of_ble_eq_true rfl) eu_8 (fn9_call (by omega) er_1) ?_
  refine sh_astore (i' := 3) (n := 1) i47_5 (Or.inr ⟨rfl, by decide⟩) (xokst_of (Nat.le_of_ble_eq_true rfl) (xrv_cat (o2))) ?_
  refine sh_aload (i' := 3) (n := 1) i47_6 (Or.inr ⟨rfl, by decide⟩) rfl ?_
  refine sh_null (t := 26) i47_7 rfl (fun c_2 => ?_) (fun c_2 => ?_)
  · replace hf := x_pos c_2 hf
    exact j47_26_ok hd hf
  · replace hf := x_neg c_2 hf
    refine sh_aload (i' := 1) (n := 1) i47_10 (Or.inr ⟨rfl, by decide⟩) rfl ?_
    obtain ⟨v_3, ev_3, hf⟩ := x_bind hf
    refine sh_getI i47_11 f47_124 ev_3 ?_
    refine ev_if (t := 26) i47_14 rfl (fun c_4 => ?_) (fun c_4 => ?_)
    · replace hf := x_neg (show ¬ v_3 = 0 from c_4) hf
      exact j47_26_ok hd hf
    · replace hf := x_pos (show v_3 = 0 from Decidable.byContradiction (fun h9 => c_4 h9)) hf
      refine sh_aload (i' := 0) (n := 1) i47_17 (Or.inr ⟨rfl, by decide⟩) rfl ?_
      refine ev_do i47_18 rfl ?_
      refine sh_aload (i' := 3) (n := 1) i47_19 (Or.inr ⟨rfl, by decide⟩) rfl ?_
      obtain ⟨v_5, ev_5, hf⟩ := x_bind hf
      refine sh_getI i47_20 f47_86 ev_5 ?_
      obtain ⟨_, eu_7, hf⟩ := x_bind hf
      obtain ⟨h_6, eh_6, hf⟩ := x_bind hf
      refine sh_inv (as := [.int v_5, .int 5]) (z := (none, h_6)) i47_23 v47_28 (Or.inl ⟨by decide, rfl⟩) m41 rfl (Nat.le_of_ble_eq_true rfl) eu_7 (fn41_call (by omega) eh_6) ?_
      exact j47_26_ok hd hf
end
section
def j49_66  (o0 : Option Nat) (o1 : Option Nat) (o2 : Option Nat) (o3 : Option Nat) (x4 : Int32) (h : xH) : Option (Int32 × xH) := some (0, h)
theorem j49_66_ok {xs : List Int32} {d : Nat} (hd : 5 ≤ d) {u5 : Value} {o0 : Option Nat} {o1 : Option Nat} {o2 : Option Nat} {o3 : Option Nat} {x4 : Int32} {h : xH} {r : (Int32 × xH)} (hu5 : u5.category = 1) (hf : j49_66 o0 o1 o2 o3 x4 h = some r) : xEv (xTa xs) d 49 (66, [xrv o0, xrv o1, xrv o2, xrv o3, .int x4, u5], [], h) (some (.int r.1), r.2) := by
  unfold j49_66 at hf
  refine ev_do i49_66 rfl ?_
  obtain rfl := Option.some.inj hf
  exact sh_iret i49_67 m49 rfl (by decide)
def j49_54 (k5 : Option Nat → Option Nat → Option Nat → Option Nat → Int32 → xH → Option (Int32 × xH)) (o0 : Option Nat) (o1 : Option Nat) (o2 : Option Nat) (o3 : Option Nat) (x4 : Int32) (o5 : Option Nat) (h : xH) : Option (Int32 × xH) := (xcv h o0 8).bind fun _ => (fn90 o0 o3 h).bind fun r_1 => k5 o0 o1 o2 r_1.1 (x4 + 1) r_1.2
theorem j49_54_ok {xs : List Int32} {d : Nat} (hd : 5 ≤ d) {k5 : Option Nat → Option Nat → Option Nat → Option Nat → Int32 → xH → Option (Int32 × xH)} (hk5 : ∀ {u5 : Value} {o0 : Option Nat} {o1 : Option Nat} {o2 : Option Nat} {o3 : Option Nat} {x4 : Int32} {h : xH} {r : (Int32 × xH)}, u5.category = 1 → k5 o0 o1 o2 o3 x4 h = some r → xEv (xTa xs) d 49 (5, [xrv o0, xrv o1, xrv o2, xrv o3, .int x4, u5], [], h) (some (.int r.1), r.2)) {o0 : Option Nat} {o1 : Option Nat} {o2 : Option Nat} {o3 : Option Nat} {x4 : Int32} {o5 : Option Nat} {h : xH} {r : (Int32 × xH)} (hf : j49_54 k5 o0 o1 o2 o3 x4 o5 h = some r) : xEv (xTa xs) d 49 (54, [xrv o0, xrv o1, xrv o2, xrv o3, .int x4, xrv o5], [], h) (some (.int r.1), r.2) := by
  unfold j49_54 at hf
  refine sh_aload (i' := 0) (n := 1) i49_54 (Or.inr ⟨rfl, by decide⟩) rfl ?_
  refine sh_aload (i' := 3) (n := 1) i49_55 (Or.inr ⟨rfl, by decide⟩) rfl ?_
  obtain ⟨_, eu_2, hf⟩ := x_bind hf
  obtain ⟨r_1, er_1, hf⟩ := x_bind hf
  refine sh_inv (as := [xrv o3]) (z := (some (xrv r_1.1), r_1.2)) i49_56 v49_143 (Or.inl ⟨by decide, rfl⟩) m90 rfl (Nat.le_of_ble_eq_true rfl) eu_2 (fn90_call (by omega) er_1) ?_
  refine sh_astore (i' := 3) (n := 1) i49_59 (Or.inr ⟨rfl, by decide⟩) (xokst_of (Nat.le_of_ble_eq_true rfl) (xrv_cat (o2))) ?_
  refine sh_inc (i' := 4) i49_60 rfl (xokst_of (Nat.le_of_ble_eq_true rfl) (xrv_cat (r_1.1))) rfl ?_
  refine sh_goto (t := 5) i49_63 rfl ?_
  exact hk5 (xrv_cat (o5)) hf
def j49_52  (o0 : Option Nat) (o1 : Option Nat) (o2 : Option Nat) (o3 : Option Nat) (x4 : Int32) (o5 : Option Nat) (h : xH) : Option (Int32 × xH) := some (1, h)
theorem j49_52_ok {xs : List Int32} {d : Nat} (hd : 5 ≤ d) {o0 : Option Nat} {o1 : Option Nat} {o2 : Option Nat} {o3 : Option Nat} {x4 : Int32} {o5 : Option Nat} {h : xH} {r : (Int32 × xH)} (hf : j49_52 o0 o1 o2 o3 x4 o5 h = some r) : xEv (xTa xs) d 49 (52, [xrv o0, xrv o1, xrv o2, xrv o3, .int x4, xrv o5], [], h) (some (.int r.1), r.2) := by
  unfold j49_52 at hf
  refine ev_do i49_52 rfl ?_
  obtain rfl := Option.some.inj hf
  exact sh_iret i49_53 m49 rfl (by decide)
def l49_5  : Nat → Option Nat → Option Nat → Option Nat → Option Nat → Int32 → xH → Option (Int32 × xH)
  | 0 => fun _ _ _ _ _ _ => none
  | n + 1 => fun o0 o1 o2 o3 x4 h => (if 40 ≤ x4 then j49_66 o0 o1 o2 o3 x4 h else (if o3 = none then j49_66 o0 o1 o2 o3 x4 h else (xcv h o3 2).bind fun _ => (fn14 o3 h).bind fun r_3 => (if r_3.1 = none then j49_54 (l49_5 n) o0 o1 o2 o3 x4 r_3.1 r_3.2 else (if o2 = none then (xcv r_3.2 r_3.1 1).bind fun _ => (fn9 r_3.1 3 r_3.2).bind fun r_6 => (if r_6.1 = none then j49_54 (l49_5 n) o0 o1 o2 o3 x4 r_3.1 r_6.2 else j49_52 o0 o1 o2 o3 x4 r_3.1 r_6.2) else (xcv r_3.2 r_3.1 1).bind fun _ => (fn10 r_3.1 o2 r_3.2).bind fun r_9 => (if r_9.1 = 0 then j49_54 (l49_5 n) o0 o1 o2 o3 x4 r_3.1 r_9.2 else j49_52 o0 o1 o2 o3 x4 r_3.1 r_9.2)))))
theorem l49_5_ok {xs : List Int32} {d : Nat} (hd : 5 ≤ d) : ∀ (n : Nat) {u5 : Value} {o0 : Option Nat} {o1 : Option Nat} {o2 : Option Nat} {o3 : Option Nat} {x4 : Int32} {h : xH} {r : (Int32 × xH)} (hu5 : u5.category = 1), l49_5 n o0 o1 o2 o3 x4 h = some r → xEv (xTa xs) d 49 (5, [xrv o0, xrv o1, xrv o2, xrv o3, .int x4, u5], [], h) (some (.int r.1), r.2) := by
  intro n
  induction n with
  | zero => intros; rename_i hf; cases hf
  | succ n ih =>
    intro u5 o0 o1 o2 o3 x4 h r hu5 hf
    replace hf : ((if 40 ≤ x4 then j49_66 o0 o1 o2 o3 x4 h else (if o3 = none then j49_66 o0 o1 o2 o3 x4 h else (xcv h o3 2).bind fun _ => (fn14 o3 h).bind fun r_3 => (if r_3.1 = none then j49_54 (l49_5 n) o0 o1 o2 o3 x4 r_3.1 r_3.2 else (if o2 = none then (xcv r_3.2 r_3.1 1).bind fun _ => (fn9 r_3.1 3 r_3.2).bind fun r_6 => (if r_6.1 = none then j49_54 (l49_5 n) o0 o1 o2 o3 x4 r_3.1 r_6.2 else j49_52 o0 o1 o2 o3 x4 r_3.1 r_6.2) else (xcv r_3.2 r_3.1 1).bind fun _ => (fn10 r_3.1 o2 r_3.2).bind fun r_9 => (if r_9.1 = 0 then j49_54 (l49_5 n) o0 o1 o2 o3 x4 r_3.1 r_9.2 else j49_52 o0 o1 o2 o3 x4 r_3.1 r_9.2)))))) = some r := hf
    refine ev_do i49_5 rfl ?_
    refine ev_do i49_7 rfl ?_
    refine ev_icmp (t := 66) i49_9 rfl (fun c_1 => ?_) (fun c_1 => ?_)
    · replace hf := x_pos (show 40 ≤ x4 from c_1) hf
      exact j49_66_ok hd hu5 hf
    · replace hf := x_neg (show ¬ 40 ≤ x4 from c_1) hf
      refine sh_aload (i' := 3) (n := 1) i49_12 (Or.inr ⟨rfl, by decide⟩) rfl ?_
      refine sh_null (t := 66) i49_13 rfl (fun c_2 => ?_) (fun c_2 => ?_)
      · replace hf := x_pos c_2 hf
        exact j49_66_ok hd hu5 hf
      · replace hf := x_neg c_2 hf
        refine sh_aload (i' := 3) (n := 1) i49_16 (Or.inr ⟨rfl, by decide⟩) rfl ?_
        obtain ⟨_, eu_12, hf⟩ := x_bind hf
        obtain ⟨r_3, er_3, hf⟩ := x_bind hf
        refine sh_inv (as := []) (z := (some (xrv r_3.1), r_3.2)) i49_17 v49_32 (Or.inl ⟨by decide, rfl⟩) m14 rfl (Nat.le_of_ble_eq_true rfl) eu_12 (fn14_call (by omega) er_3) ?_
        refine sh_astore (i' := 5) (n := 2) i49_20 (Or.inl rfl) (xokst_of (Nat.le_of_ble_eq_true rfl) rfl) ?_
        refine sh_aload (i' := 5) (n := 2) i49_22 (Or.inl rfl) rfl ?_
        refine sh_null (t := 54) i49_24 rfl (fun c_4 => ?_) (fun c_4 => ?_)
        · replace hf := x_pos c_4 hf
          exact j49_54_ok hd ih hf
        · replace hf := x_neg c_4 hf
          refine sh_aload (i' := 2) (n := 1) i49_27 (Or.inr ⟨rfl, by decide⟩) rfl ?_
          refine sh_nnul (t := 43) i49_28 rfl (fun c_5 => ?_) (fun c_5 => ?_)
          · replace hf := x_pos c_5 hf
            refine sh_aload (i' := 5) (n := 2) i49_31 (Or.inl rfl) rfl ?_
            refine ev_do i49_33 rfl ?_
            obtain ⟨_, eu_8, hf⟩ := x_bind hf
            obtain ⟨r_6, er_6, hf⟩ := x_bind hf
            refine sh_inv (as := [.int 3]) (z := (some (xrv r_6.1), r_6.2)) i49_34 v49_106 (Or.inl ⟨by decide, rfl⟩) m9 rfl (Nat.le_of_ble_eq_true rfl) eu_8 (fn9_call (by omega) er_6) ?_
            refine sh_null (t := 54) i49_37 rfl (fun c_7 => ?_) (fun c_7 => ?_)
            · replace hf := x_pos c_7 hf
              exact j49_54_ok hd ih hf
            · replace hf := x_neg c_7 hf
              refine sh_goto (t := 52) i49_40 rfl ?_
              exact j49_52_ok hd hf
          · replace hf := x_neg c_5 hf
            refine sh_aload (i' := 5) (n := 2) i49_43 (Or.inl rfl) rfl ?_
            refine sh_aload (i' := 2) (n := 1) i49_45 (Or.inr ⟨rfl, by decide⟩) rfl ?_
            obtain ⟨_, eu_11, hf⟩ := x_bind hf
            obtain ⟨r_9, er_9, hf⟩ := x_bind hf
            refine sh_inv (as := [xrv o2]) (z := (some (.int r_9.1), r_9.2)) i49_46 v49_139 (Or.inl ⟨by decide, rfl⟩) m10 rfl (Nat.le_of_ble_eq_true rfl) eu_11 (fn10_call (by omega) er_9) ?_
            refine ev_if (t := 54) i49_49 rfl (fun c_10 => ?_) (fun c_10 => ?_)
            · replace hf := x_pos (show r_9.1 = 0 from c_10) hf
              exact j49_54_ok hd ih hf
            · replace hf := x_neg (show ¬ r_9.1 = 0 from c_10) hf
              exact j49_52_ok hd hf
def fn49 (o0 : Option Nat) (o1 : Option Nat) (o2 : Option Nat) (h : xH) : Option (Int32 × xH) := l49_5 xFuel o0 o1 o2 o1 0 h
theorem fn49_call {xs : List Int32} {d : Nat} (hd : 6 ≤ d) {o0 : Option Nat} {o1 : Option Nat} {o2 : Option Nat} {h : xH} {r : (Int32 × xH)} (hf : fn49 o0 o1 o2 h = some r) : xCall (xTa xs) d 49 [xrv o0, xrv o1, xrv o2] h (some (.int r.1), r.2) := by
  obtain ⟨d, rfl⟩ : ∃ d2, d = d2 + 1 := ⟨d - 1, by omega⟩
  replace hd : 5 ≤ d := by omega
  refine call_of2 (fl := [xrv o0, xrv o1, xrv o2]) (Ls := [xrv o0, xrv o1, xrv o2, .float 0, .float 0, .float 0]) m49 (by simp [xfl, xrv_cat, xc_i, xc_j, xc_a, xc_f]) (Nat.le_of_ble_eq_true rfl) rfl ?_
  unfold fn49 at hf
  refine sh_aload (i' := 1) (n := 1) i49_0 (Or.inr ⟨rfl, by decide⟩) rfl ?_
  refine sh_astore (i' := 3) (n := 1) i49_1 (Or.inr ⟨rfl, by decide⟩) (xokst_of (Nat.le_of_ble_eq_true rfl) (xrv_cat (o2))) ?_
  refine ev_do i49_2 rfl ?_
  refine sh_istore (i' := 4) (n := 2) i49_3 (Or.inl rfl) (xokst_of (Nat.le_of_ble_eq_true rfl) (xrv_cat (o1))) ?_
  exact l49_5_ok hd xFuel rfl hf
end
section
def j48_68  (o0 : Option Nat) (o1 : Option Nat) (o2 : Option Nat) (x3 : Int32) (h : xH) : Option xH := some h
theorem j48_68_ok {xs : List Int32} {d : Nat} (hd : 6 ≤ d) {u4 : Value} {o0 : Option Nat} {o1 : Option Nat} {o2 : Option Nat} {x3 : Int32} {h : xH} {r : xH} (hu4 : u4.category = 1) (hf : j48_68 o0 o1 o2 x3 h = some r) : xEv (xTa xs) d 48 (68, [xrv o0, xrv o1, xrv o2, .int x3, u4], [], h) (none, r) := by
  unfold j48_68 at hf
  obtain rfl := Option.some.inj hf
  exact sh_vret i48_68 m48 rfl
def j48_39 (k2 : Option Nat → Option Nat → Option Nat → Int32 → xH → Option xH) (o0 : Option Nat) (o1 : Option Nat) (o2 : Option Nat) (x3 : Int32) (o4 : Option Nat) (h : xH) : Option xH := k2 o0 o1 o2 (x3 + 1) h
theorem j48_39_ok {xs : List Int32} {d : Nat} (hd : 6 ≤ d) {k2 : Option Nat → Option Nat → Option Nat → Int32 → xH → Option xH} (hk2 : ∀ {u4 : Value} {o0 : Option Nat} {o1 : Option Nat} {o2 : Option Nat} {x3 : Int32} {h : xH} {r : xH}, u4.category = 1 → k2 o0 o1 o2 x3 h = some r → xEv (xTa xs) d 48 (2, [xrv o0, xrv o1, xrv o2, .int x3, u4], [], h) (none, r)) {o0 : Option Nat} {o1 : Option Nat} {o2 : Option Nat} {x3 : Int32} {o4 : Option Nat} {h : xH} {r : xH} (hf : j48_39 k2 o0 o1 o2 x3 o4 h = some r) : xEv (xTa xs) d 48 (39, [xrv o0, xrv o1, xrv o2, .int x3, xrv o4], [], h) (none, r) := by
  unfold j48_39 at hf
  refine sh_inc (i' := 3) i48_39 rfl (xokst_of (Nat.le_of_ble_eq_true rfl) (xrv_cat (o2))) rfl ?_
  refine sh_goto (t := 2) i48_42 rfl ?_
  exact hk2 (xrv_cat (o4)) hf
def l48_2  : Nat → Option Nat → Option Nat → Option Nat → Int32 → xH → Option xH
  | 0 => fun _ _ _ _ _ => none
  | n + 1 => fun o0 o1 o2 x3 h => (xgI h o2 2 6).bind fun v_1 => (if v_1 ≤ x3 then (xgI h o2 2 4).bind fun v_3 => (if v_3 = 0 then j48_68 o0 o1 o2 x3 h else (fn49 o1 o2 none h).bind fun r_5 => (if r_5.1 = 0 then (xcv r_5.2 o0 4).bind fun _ => (fn41 o0 7 0 r_5.2).bind fun h_7 => j48_68 o0 o1 o2 x3 h_7 else j48_68 o0 o1 o2 x3 r_5.2)) else (xcv h o2 2).bind fun _ => (fn15 o2 x3 h).bind fun r_9 => (if r_9.1 = none then j48_39 (l48_2 n) o0 o1 o2 x3 r_9.1 r_9.2 else (fn49 o1 o2 r_9.1 r_9.2).bind fun r_11 => (if r_11.1 = 0 then (xcv r_11.2 o0 4).bind fun _ => (fn41 o0 6 x3 r_11.2).bind fun h_13 => j48_39 (l48_2 n) o0 o1 o2 x3 r_9.1 h_13 else j48_39 (l48_2 n) o0 o1 o2 x3 r_9.1 r_11.2)))
theorem l48_2_ok {xs : List Int32} {d : Nat} (hd : 6 ≤ d) : ∀ (n : Nat) {u4 : Value} {o0 : Option Nat} {o1 : Option Nat} {o2 : Option Nat} {x3 : Int32} {h : xH} {r : xH} (hu4 : u4.category = 1), l48_2 n o0 o1 o2 x3 h = some r → xEv (xTa xs) d 48 (2, [xrv o0, xrv o1, xrv o2, .int x3, u4], [], h) (none, r) := by
  intro n
  induction n with
  | zero => intros; rename_i hf; cases hf
  | succ n ih =>
    intro u4 o0 o1 o2 x3 h r hu4 hf
    replace hf : ((xgI h o2 2 6).bind fun v_1 => (if v_1 ≤ x3 then (xgI h o2 2 4).bind fun v_3 => (if v_3 = 0 then j48_68 o0 o1 o2 x3 h else (fn49 o1 o2 none h).bind fun r_5 => (if r_5.1 = 0 then (xcv r_5.2 o0 4).bind fun _ => (fn41 o0 7 0 r_5.2).bind fun h_7 => j48_68 o0 o1 o2 x3 h_7 else j48_68 o0 o1 o2 x3 r_5.2)) else (xcv h o2 2).bind fun _ => (fn15 o2 x3 h).bind fun r_9 => (if r_9.1 = none then j48_39 (l48_2 n) o0 o1 o2 x3 r_9.1 r_9.2 else (fn49 o1 o2 r_9.1 r_9.2).bind fun r_11 => (if r_11.1 = 0 then (xcv r_11.2 o0 4).bind fun _ => (fn41 o0 6 x3 r_11.2).bind fun h_13 => j48_39 (l48_2 n) o0 o1 o2 x3 r_9.1 h_13 else j48_39 (l48_2 n) o0 o1 o2 x3 r_9.1 r_11.2)))) = some r := hf
    refine ev_do i48_2 rfl ?_
    refine sh_aload (i' := 2) (n := 1) i48_3 (Or.inr ⟨rfl, by decide⟩) rfl ?_
    obtain ⟨v_1, ev_1, hf⟩ := x_bind hf
    refine sh_getI i48_4 f48_128 ev_1 ?_
    refine ev_icmp (t := 45) i48_7 rfl (fun c_2 => ?_) (fun c_2 => ?_)
    · replace hf := x_pos (show v_1 ≤ x3 from c_2) hf
      refine sh_aload (i' := 2) (n := 1) i48_45 (Or.inr ⟨rfl, by decide⟩) rfl ?_
      obtain ⟨v_3, ev_3, hf⟩ := x_bind hf
      refine sh_getI i48_46 f48_124 ev_3 ?_
      refine ev_if (t := 68) i48_49 rfl (fun c_4 => ?_) (fun c_4 => ?_)
      · replace hf := x_pos (show v_3 = 0 from c_4) hf
        exact j48_68_ok hd hu4 hf
      · replace hf := x_neg (show ¬ v_3 = 0 from c_4) hf
        refine sh_aload (i' := 1) (n := 1) i48_52 (Or.inr ⟨rfl, by decide⟩) rfl ?_
        refine sh_aload (i' := 2) (n := 1) i48_53 (Or.inr ⟨rfl, by decide⟩) rfl ?_
        refine sh_cnull i48_54 ?_
        obtain ⟨r_5, er_5, hf⟩ := x_bind hf
        refine ev_sta (as := [xrv none, xrv o2, xrv o1]) (z := (some (.int r_5.1), r_5.2)) i48_55 v48_135 (Or.inl rfl) m49 rfl (Nat.le_of_ble_eq_true rfl) (fn49_call (by omega) er_5) ?_
        refine ev_if (t := 68) i48_58 rfl (fun c_6 => ?_) (fun c_6 => ?_)
        · replace hf := x_neg (show ¬ r_5.1 = 0 from c_6) hf
          exact j48_68_ok hd hu4 hf
        · replace hf := x_pos (show r_5.1 = 0 from Decidable.byContradiction (fun h9 => c_6 h9)) hf
          refine sh_aload (i' := 0) (n := 1) i48_61 (Or.inr ⟨rfl, by decide⟩) rfl ?_
          refine ev_do i48_62 rfl ?_
          refine ev_do i48_64 rfl ?_
          obtain ⟨_, eu_8, hf⟩ := x_bind hf
          obtain ⟨h_7, eh_7, hf⟩ := x_bind hf
          refine sh_inv (as := [.int 0, .int 7]) (z := (none, h_7)) i48_65 v48_28 (Or.inl ⟨by decide, rfl⟩) m41 rfl (Nat.le_of_ble_eq_true rfl) eu_8 (fn41_call (by omega) eh_7) ?_
          exact j48_68_ok hd hu4 hf
    · replace hf := x_neg (show ¬ v_1 ≤ x3 from c_2) hf
      refine sh_aload (i' := 2) (n := 1) i48_10 (Or.inr ⟨rfl, by decide⟩) rfl ?_
      refine ev_do i48_11 rfl ?_
      obtain ⟨_, eu_15, hf⟩ := x_bind hf
      obtain ⟨r_9, er_9, hf⟩ := x_bind hf
      refine sh_inv (as := [.int x3]) (z := (some (xrv r_9.1), r_9.2)) i48_12 v48_131 (Or.inl ⟨by decide, rfl⟩) m15 rfl (Nat.le_of_ble_eq_true rfl) eu_15 (fn15_call (by omega) er_9) ?_
      refine sh_astore (i' := 4) (n := 2) i48_15 (Or.inl rfl) (xokst_of (Nat.le_of_ble_eq_true rfl) rfl) ?_
      refine sh_aload (i' := 4) (n := 2) i48_17 (Or.inl rfl) rfl ?_
      refine sh_null (t := 39) i48_19 rfl (fun c_10 => ?_) (fun c_10 => ?_)
      · replace hf := x_pos c_10 hf
        exact j48_39_ok hd ih hf
      · replace hf := x_neg c_10 hf
        refine sh_aload (i' := 1) (n := 1) i48_22 (Or.inr ⟨rfl, by decide⟩) rfl ?_
        refine sh_aload (i' := 2) (n := 1) i48_23 (Or.inr ⟨rfl, by decide⟩) rfl ?_
        refine sh_aload (i' := 4) (n := 2) i48_24 (Or.inl rfl) rfl ?_
        obtain ⟨r_11, er_11, hf⟩ := x_bind hf
        refine ev_sta (as := [xrv r_9.1, xrv o2, xrv o1]) (z := (some (.int r_11.1), r_11.2)) i48_26 v48_135 (Or.inl rfl) m49 rfl (Nat.le_of_ble_eq_true rfl) (fn49_call (by omega) er_11) ?_
        refine ev_if (t := 39) i48_29 rfl (fun c_12 => ?_) (fun c_12 => ?_)
        · replace hf := x_neg (show ¬ r_11.1 = 0 from c_12) hf
          exact j48_39_ok hd ih hf
        · replace hf := x_pos (show r_11.1 = 0 from Decidable.byContradiction (fun h9 => c_12 h9)) hf
          refine sh_aload (i' := 0) (n := 1) i48_32 (Or.inr ⟨rfl, by decide⟩) rfl ?_
          refine ev_do i48_33 rfl ?_
          refine ev_do i48_35 rfl ?_
          obtain ⟨_, eu_14, hf⟩ := x_bind hf
          obtain ⟨h_13, eh_13, hf⟩ := x_bind hf
          refine sh_inv (as := [.int x3, .int 6]) (z := (none, h_13)) i48_36 v48_28 (Or.inl ⟨by decide, rfl⟩) m41 rfl (Nat.le_of_ble_eq_true rfl) eu_14 (fn41_call (by omega) eh_13) ?_
          exact j48_39_ok hd ih hf
def fn48 (o0 : Option Nat) (o1 : Option Nat) (o2 : Option Nat) (h : xH) : Option xH := l48_2 xFuel o0 o1 o2 0 h
theorem fn48_call {xs : List Int32} {d : Nat} (hd : 7 ≤ d) {o0 : Option Nat} {o1 : Option Nat} {o2 : Option Nat} {h : xH} {r : xH} (hf : fn48 o0 o1 o2 h = some r) : xCall (xTa xs) d 48 [xrv o0, xrv o1, xrv o2] h (none, r) := by
  obtain ⟨d, rfl⟩ : ∃ d2, d = d2 + 1 := ⟨d - 1, by omega⟩
  replace hd : 6 ≤ d := by omega
  refine call_of2 (fl := [xrv o0, xrv o1, xrv o2]) (Ls := [xrv o0, xrv o1, xrv o2, .float 0, .float 0]) m48 (by simp [xfl, xrv_cat, xc_i, xc_j, xc_a, xc_f]) (Nat.le_of_ble_eq_true rfl) rfl ?_
  unfold fn48 at hf
  refine ev_do i48_0 rfl ?_
  refine sh_istore (i' := 3) (n := 1) i48_1 (Or.inr ⟨rfl, by decide⟩) (xokst_of (Nat.le_of_ble_eq_true rfl) (xrv_cat (o2))) ?_
  exact l48_2_ok hd xFuel rfl hf
end
section
def j42_56  (o0 : Option Nat) (o1 : Option Nat) (o2 : Option Nat) (o3 : Option Nat) (h : xH) : Option xH := (xcv h o0 4).bind fun _ => (fn48 o0 o1 o2 h).bind fun h_1 => some h_1
theorem j42_56_ok {xs : List Int32} {d : Nat} (hd : 7 ≤ d) {o0 : Option Nat} {o1 : Option Nat} {o2 : Option Nat} {o3 : Option Nat} {h : xH} {r : xH} (hf : j42_56 o0 o1 o2 o3 h = some r) : xEv (xTa xs) d 42 (56, [xrv o0, xrv o1, xrv o2, xrv o3], [], h) (none, r) := by
  unfold j42_56 at hf
  refine sh_aload (i' := 0) (n := 1) i42_56 (Or.inr ⟨rfl, by decide⟩) rfl ?_
  refine sh_aload (i' := 1) (n := 1) i42_57 (Or.inr ⟨rfl, by decide⟩) rfl ?_
  refine sh_aload (i' := 2) (n := 1) i42_58 (Or.inr ⟨rfl, by decide⟩) rfl ?_
  obtain ⟨_, eu_2, hf⟩ := x_bind hf
  obtain ⟨h_1, eh_1, hf⟩ := x_bind hf
  refine sh_inv (as := [xrv o2, xrv o1]) (z := (none, h_1)) i42_59 v42_56 (Or.inl ⟨by decide, rfl⟩) m48 rfl (Nat.le_of_ble_eq_true rfl) eu_2 (fn48_call (by omega) eh_1) ?_
  obtain rfl := Option.some.inj hf
  exact sh_vret i42_62 m42 rfl
def j42_19  (o0 : Option Nat) (o1 : Option Nat) (o2 : Option Nat) (h : xH) : Option xH := (xcv h o2 2).bind fun _ => (fn14 o2 h).bind fun r_1 => (if r_1.1 = none then j42_56 o0 o1 o2 r_1.1 r_1.2 else (xcv r_1.2 o0 4).bind fun _ => (fn43 o0 o1 r_1.1 r_1.2).bind fun h_3 => (xcv h_3 o1 8).bind fun _ => (fn92 o1 o2 h_3).bind fun r_4 => (xcv r_4.2 o0 4).bind fun _ => (fn45 o0 r_1.1 r_4.1 r_4.2).bind fun h_5 => (xcv h_5 o0 4).bind fun _ => (fn46 o0 o2 r_1.1 h_5).bind fun h_6 => (xcv h_6 o0 4).bind fun _ => (fn47 o0 o2 r_1.1 h_6).bind fun h_7 => j42_56 o0 o1 o2 r_1.1 h_7)
theorem j42_19_ok {xs : List Int32} {d : Nat} (hd : 7 ≤ d) {u3 : Value} {o0 : Option Nat} {o1 : Option Nat} {o2 : Option Nat} {h : xH} {r : xH} (hu3 : u3.category = 1) (hf : j42_19 o0 o1 o2 h = some r) : xEv (xTa xs) d 42 (19, [xrv o0, xrv o1, xrv o2, u3], [], h) (none, r) := by
  unfold j42_19 at hf
  refine sh_aload (i' := 2) (n := 1) i42_19 (Or.inr ⟨rfl, by decide⟩) rfl ?_
  obtain ⟨_, eu_13, hf⟩ := x_bind hf
  obtain ⟨r_1, er_1, hf⟩ := x_bind hf
  refine sh_inv (as := []) (z := (some (xrv r_1.1), r_1.2)) i42_20 v42_32 (Or.inl ⟨by decide, rfl⟩) m14 rfl (Nat.le_of_ble_eq_true rfl) eu_13 (fn14_call (by omega) er_1) ?_
  refine sh_astore (i' := 3) (n := 1) i42_23 (Or.inr ⟨rfl, by decide⟩) (xokst_of (Nat.le_of_ble_eq_true rfl) (xrv_cat (o2))) ?_
  refine sh_aload (i' := 3) (n := 1) i42_24 (Or.inr ⟨rfl, by decide⟩) rfl ?_
  refine sh_null (t := 56) i42_25 rfl (fun c_2 => ?_) (fun c_2 => ?_)
  · replace hf := x_pos c_2 hf
    exact j42_56_ok hd hf
  · replace hf := x_neg c_2 hf
    refine sh_aload (i' := 0) (n := 1) i42_28 (Or.inr ⟨rfl, by decide⟩) rfl ?_
    refine sh_aload (i' := 1) (n := 1) i42_29 (Or.inr ⟨rfl, by decide⟩) rfl ?_
    refine sh_aload (i' := 3) (n := 1) i42_30 (Or.inr ⟨rfl, by decide⟩) rfl ?_
    obtain ⟨_, eu_12, hf⟩ := x_bind hf
    obtain ⟨h_3, eh_3, hf⟩ := x_bind hf
    refine sh_inv (as := [xrv r_1.1, xrv o1]) (z := (none, h_3)) i42_31 v42_38 (Or.inl ⟨by decide, rfl⟩) m43 rfl (Nat.le_of_ble_eq_true rfl) eu_12 (fn43_call (by omega) eh_3) ?_
    refine sh_aload (i' := 0) (n := 1) i42_34 (Or.inr ⟨rfl, by decide⟩) rfl ?_
    refine sh_aload (i' := 3) (n := 1) i42_35 (Or.inr ⟨rfl, by decide⟩) rfl ?_
    refine sh_aload (i' := 1) (n := 1) i42_36 (Or.inr ⟨rfl, by decide⟩) rfl ?_
    refine sh_aload (i' := 2) (n := 1) i42_37 (Or.inr ⟨rfl, by decide⟩) rfl ?_
    obtain ⟨_, eu_11, hf⟩ := x_bind hf
    obtain ⟨r_4, er_4, hf⟩ := x_bind hf
    refine sh_inv (as := [xrv o2]) (z := (some (xrv r_4.1), r_4.2)) i42_38 v42_42 (Or.inl ⟨by decide, rfl⟩) m92 rfl (by simp [xcat, xrv_cat, xc_i, xc_j, xc_a, xc_f]) eu_11 (fn92_call (by omega) er_4) ?_
    obtain ⟨_, eu_10, hf⟩ := x_bind hf
    obtain ⟨h_5, eh_5, hf⟩ := x_bind hf
    refine sh_inv (as := [xrv r_4.1, xrv r_1.1]) (z := (none, h_5)) i42_41 v42_45 (Or.inl ⟨by decide, rfl⟩) m45 rfl (Nat.le_of_ble_eq_true rfl) eu_10 (fn45_call (by omega) eh_5) ?_
    refine sh_aload (i' := 0) (n := 1) i42_44 (Or.inr ⟨rfl, by decide⟩) rfl ?_
    refine sh_aload (i' := 2) (n := 1) i42_45 (Or.inr ⟨rfl, by decide⟩) rfl ?_
    refine sh_aload (i' := 3) (n := 1) i42_46 (Or.inr ⟨rfl, by decide⟩) rfl ?_
    obtain ⟨_, eu_9, hf⟩ := x_bind hf
    obtain ⟨h_6, eh_6, hf⟩ := x_bind hf
    refine sh_inv (as := [xrv r_1.1, xrv o2]) (z := (none, h_6)) i42_47 v42_49 (Or.inl ⟨by decide, rfl⟩) m46 rfl (Nat.le_of_ble_eq_true rfl) eu_9 (fn46_call (by omega) eh_6) ?_
    refine sh_aload (i' := 0) (n := 1) i42_50 (Or.inr ⟨rfl, by decide⟩) rfl ?_
    refine sh_aload (i' := 2) (n := 1) i42_51 (Or.inr ⟨rfl, by decide⟩) rfl ?_
    refine sh_aload (i' := 3) (n := 1) i42_52 (Or.inr ⟨rfl, by decide⟩) rfl ?_
    obtain ⟨_, eu_8, hf⟩ := x_bind hf
    obtain ⟨h_7, eh_7, hf⟩ := x_bind hf
    refine sh_inv (as := [xrv r_1.1, xrv o2]) (z := (none, h_7)) i42_53 v42_53 (Or.inl ⟨by decide, rfl⟩) m47 rfl (Nat.le_of_ble_eq_true rfl) eu_8 (fn47_call (by omega) eh_7) ?_
    exact j42_56_ok hd hf
def fn42 (o0 : Option Nat) (o1 : Option Nat) (o2 : Option Nat) (h : xH) : Option xH := (xpF h o0 4 2 .int (.int 0)).bind fun h_1 => (xcv h_1 o1 8).bind fun _ => (fn91 o1 o2 h_1).bind fun r_2 => (if r_2.1 = none then (xcv r_2.2 o0 4).bind fun _ => (fn41 o0 1 0 r_2.2).bind fun h_4 => j42_19 o0 o1 o2 h_4 else j42_19 o0 o1 o2 r_2.2)
theorem fn42_call {xs : List Int32} {d : Nat} (hd : 8 ≤ d) {o0 : Option Nat} {o1 : Option Nat} {o2 : Option Nat} {h : xH} {r : xH} (hf : fn42 o0 o1 o2 h = some r) : xCall (xTa xs) d 42 [xrv o0, xrv o1, xrv o2] h (none, r) := by
  obtain ⟨d, rfl⟩ : ∃ d2, d = d2 + 1 := ⟨d - 1, by omega⟩
  replace hd : 7 ≤ d := by omega
  refine call_of2 (fl := [xrv o0, xrv o1, xrv o2]) (Ls := [xrv o0, xrv o1, xrv o2, .float 0]) m42 (by simp [xfl, xrv_cat, xc_i, xc_j, xc_a, xc_f]) (Nat.le_of_ble_eq_true rfl) rfl ?_
  unfold fn42 at hf
  refine sh_aload (i' := 0) (n := 1) i42_0 (Or.inr ⟨rfl, by decide⟩) rfl ?_
  refine ev_do i42_1 rfl ?_
  obtain ⟨h_1, eh_1, hf⟩ := x_bind hf
  refine sh_put i42_2 f42_18 (by decide) rfl eh_1 ?_
  refine sh_aload (i' := 1) (n := 1) i42_5 (Or.inr ⟨rfl, by decide⟩) rfl ?_
  refine sh_aload (i' := 2) (n := 1) i42_6 (Or.inr ⟨rfl, by decide⟩) rfl ?_
  obtain ⟨_, eu_6, hf⟩ := x_bind hf
  obtain ⟨r_2, er_2, hf⟩ := x_bind hf
  refine sh_inv (as := [xrv o2]) (z := (some (xrv r_2.1), r_2.2)) i42_7 v42_22 (Or.inl ⟨by decide, rfl⟩) m91 rfl (Nat.le_of_ble_eq_true rfl) eu_6 (fn91_call (by omega) er_2) ?_
  refine sh_nnul (t := 19) i42_10 rfl (fun c_3 => ?_) (fun c_3 => ?_)
  · replace hf := x_pos c_3 hf
    refine sh_aload (i' := 0) (n := 1) i42_13 (Or.inr ⟨rfl, by decide⟩) rfl ?_
    refine ev_do i42_14 rfl ?_
    refine ev_do i42_15 rfl ?_
    obtain ⟨_, eu_5, hf⟩ := x_bind hf
    obtain ⟨h_4, eh_4, hf⟩ := x_bind hf
    refine sh_inv (as := [.int 0, .int 1]) (z := (none, h_4)) i42_16 v42_28 (Or.inl ⟨by decide, rfl⟩) m41 rfl (Nat.le_of_ble_eq_true rfl) eu_5 (fn41_call (by omega) eh_4) ?_
    exact j42_19_ok hd rfl hf
  · replace hf := x_neg c_3 hf
    exact j42_19_ok hd rfl hf
end
section
def fn50 (o0 : Option Nat) (h : xH) : Option xH := (o0).bind fun a_1 => (some (xnew h (9, [.null, .int 0]))).bind fun h_2 => (xcv h_2 (some h.1) 9).bind fun _ => (fn95 (some h.1) 4000 h_2).bind fun h_3 => (xpF h_3 o0 5 0 (.object "DocFormat$Text") (xrv (some h.1))).bind fun h_4 => (xnA h_4 13 (.int 0) 4000).bind fun h_5 => (xpF h_5 o0 5 1 (.array .int) (xrv (some h_4.1))).bind fun h_6 => (xnA h_6 16 .null 40).bind fun h_7 => (xpF h_7 o0 5 2 (.array (.object "DocFormat$Entry")) (xrv (some h_6.1))).bind fun h_8 => some h_8
theorem fn50_call {xs : List Int32} {d : Nat} (hd : 3 ≤ d) {o0 : Option Nat} {h : xH} {r : xH} (hf : fn50 o0 h = some r) : xCall (xTa xs) d 50 [xrv o0] h (none, r) := by
  obtain ⟨d, rfl⟩ : ∃ d2, d = d2 + 1 := ⟨d - 1, by omega⟩
  replace hd : 2 ≤ d := by omega
  refine call_of2 (fl := [xrv o0]) (Ls := [xrv o0]) m50 (by simp [xfl, xrv_cat, xc_i, xc_j, xc_a, xc_f]) (Nat.le_of_ble_eq_true rfl) rfl ?_
  unfold fn50 at hf
  refine sh_aload (i' := 0) (n := 1) i50_0 (Or.inr ⟨rfl, by decide⟩) rfl ?_
  obtain ⟨a_1, ea_1, hf⟩ := x_bind hf
  refine sh_obj i50_1 v50_3 (Nat.le_of_ble_eq_true rfl) ea_1 ?_
  refine sh_aload (i' := 0) (n := 1) i50_4 (Or.inr ⟨rfl, by decide⟩) rfl ?_
  obtain ⟨h_2, eh_2, hf⟩ := x_bind hf
  refine sh_new (fs := [.null, .int 0]) i50_5 c50_9 (by decide) rfl ?_
  rw [Option.some.inj eh_2]
  refine sh_dup i50_8 (xrv_cat (some h.1)) ?_
  refine ev_do i50_9 rfl ?_
  obtain ⟨_, eu_9, hf⟩ := x_bind hf
  obtain ⟨h_3, eh_3, hf⟩ := x_bind hf
  refine sh_inv (as := [.int 4000]) (z := (none, h_3)) i50_12 v50_11 (Or.inr ⟨by decide, rfl⟩) m95 rfl (by simp [xcat, xrv_cat, xc_i, xc_j, xc_a, xc_f]) eu_9 (fn95_call (by omega) eh_3) ?_
  obtain ⟨h_4, eh_4, hf⟩ := x_bind hf
  refine sh_put i50_15 f50_14 (by decide) rfl eh_4 ?_
  refine sh_aload (i' := 0) (n := 1) i50_18 (Or.inr ⟨rfl, by decide⟩) rfl ?_
  refine ev_do i50_19 rfl ?_
  obtain ⟨h_5, eh_5, hf⟩ := x_bind hf
  refine sh_newa (tg := 13) (n := 2) (v := (.int 0)) i50_22 (fun _ _ _ => rfl) eh_5 ?_
  obtain ⟨h_6, eh_6, hf⟩ := x_bind hf
  refine sh_put i50_24 f50_20 (by decide) rfl eh_6 ?_
  refine sh_aload (i' := 0) (n := 1) i50_27 (Or.inr ⟨rfl, by decide⟩) rfl ?_
  refine ev_do i50_28 rfl ?_
  obtain ⟨h_7, eh_7, hf⟩ := x_bind hf
  refine sh_newa (tg := 16) (n := 3) (v := .null) i50_30 (fun _ _ _ => by show (match xtA (xTa xs) 50 24 with | some tg => if 15 ≤ tg ∧ tg < 19 then xmka tg 3 .null _ _ _ _ else none | none => none) = _; rw [a50_24]; rfl) eh_7 ?_
  obtain ⟨h_8, eh_8, hf⟩ := x_bind hf
  refine sh_put i50_33 f50_26 (by decide) rfl eh_8 ?_
  obtain rfl := Option.some.inj hf
  exact sh_vret i50_36 m50 rfl
end
section
def fn60 (o0 : Option Nat) (h : xH) : Option xH := (o0).bind fun a_1 => (some (xnew h (9, [.null, .int 0]))).bind fun h_2 => (xcv h_2 (some h.1) 9).bind fun _ => (fn95 (some h.1) 10 h_2).bind fun h_3 => (xpF h_3 o0 7 0 (.object "DocFormat$Text") (xrv (some h.1))).bind fun h_4 => some h_4
theorem fn60_call {xs : List Int32} {d : Nat} (hd : 3 ≤ d) {o0 : Option Nat} {h : xH} {r : xH} (hf : fn60 o0 h = some r) : xCall (xTa xs) d 60 [xrv o0] h (none, r) := by
  obtain ⟨d, rfl⟩ : ∃ d2, d = d2 + 1 := ⟨d - 1, by omega⟩
  replace hd : 2 ≤ d := by omega
  refine call_of2 (fl := [xrv o0]) (Ls := [xrv o0]) m60 (by simp [xfl, xrv_cat, xc_i, xc_j, xc_a, xc_f]) (Nat.le_of_ble_eq_true rfl) rfl ?_
  unfold fn60 at hf
  refine sh_aload (i' := 0) (n := 1) i60_0 (Or.inr ⟨rfl, by decide⟩) rfl ?_
  obtain ⟨a_1, ea_1, hf⟩ := x_bind hf
  refine sh_obj i60_1 v60_3 (Nat.le_of_ble_eq_true rfl) ea_1 ?_
  refine sh_aload (i' := 0) (n := 1) i60_4 (Or.inr ⟨rfl, by decide⟩) rfl ?_
  obtain ⟨h_2, eh_2, hf⟩ := x_bind hf
  refine sh_new (fs := [.null, .int 0]) i60_5 c60_9 (by decide) rfl ?_
  rw [Option.some.inj eh_2]
  refine sh_dup i60_8 (xrv_cat (some h.1)) ?_
  refine ev_do i60_9 rfl ?_
  obtain ⟨_, eu_5, hf⟩ := x_bind hf
  obtain ⟨h_3, eh_3, hf⟩ := x_bind hf
  refine sh_inv (as := [.int 10]) (z := (none, h_3)) i60_11 v60_11 (Or.inr ⟨by decide, rfl⟩) m95 rfl (by simp [xcat, xrv_cat, xc_i, xc_j, xc_a, xc_f]) eu_5 (fn95_call (by omega) eh_3) ?_
  obtain ⟨h_4, eh_4, hf⟩ := x_bind hf
  refine sh_put i60_14 f60_14 (by decide) rfl eh_4 ?_
  obtain rfl := Option.some.inj hf
  exact sh_vret i60_17 m60 rfl
end
section
def j62_41  (o0 : Option Nat) (x1 : Int32) (x2 : Int32) (h : xH) : Option xH := some h
theorem j62_41_ok {xs : List Int32} {d : Nat} (hd : 1 ≤ d) {o0 : Option Nat} {x1 : Int32} {x2 : Int32} {h : xH} {r : xH} (hf : j62_41 o0 x1 x2 h = some r) : xEv (xTa xs) d 62 (41, [xrv o0, .int x1, .int x2], [], h) (none, r) := by
  unfold j62_41 at hf
  obtain rfl := Option.some.inj hf
  exact sh_vret i62_41 m62 rfl
def j62_31  (o0 : Option Nat) (x1 : Int32) (x2 : Int32) (h : xH) : Option xH := (xpF h o0 7 5 .int (.int x2)).bind fun h_1 => (xpF h_1 o0 7 6 .int (.int x1)).bind fun h_2 => j62_41 o0 x1 x2 h_2
theorem j62_31_ok {xs : List Int32} {d : Nat} (hd : 1 ≤ d) {o0 : Option Nat} {x1 : Int32} {x2 : Int32} {h : xH} {r : xH} (hf : j62_31 o0 x1 x2 h = some r) : xEv (xTa xs) d 62 (31, [xrv o0, .int x1, .int x2], [], h) (none, r) := by
  unfold j62_31 at hf
  refine sh_aload (i' := 0) (n := 1) i62_31 (Or.inr ⟨rfl, by decide⟩) rfl ?_
  refine ev_do i62_32 rfl ?_
  obtain ⟨h_1, eh_1, hf⟩ := x_bind hf
  refine sh_put i62_33 f62_38 (by decide) rfl eh_1 ?_
  refine sh_aload (i' := 0) (n := 1) i62_36 (Or.inr ⟨rfl, by decide⟩) rfl ?_
  refine ev_do i62_37 rfl ?_
  obtain ⟨h_2, eh_2, hf⟩ := x_bind hf
  refine sh_put i62_38 f62_42 (by decide) rfl eh_2 ?_
  exact j62_41_ok hd hf
def fn62 (o0 : Option Nat) (x1 : Int32) (x2 : Int32) (h : xH) : Option xH := (xgI h o0 7 5).bind fun v_1 => (if v_1 = 0 then j62_31 o0 x1 x2 h else (xgI h o0 7 6).bind fun v_3 => (if x1 < v_3 then j62_31 o0 x1 x2 h else (xgI h o0 7 6).bind fun v_5 => (if x1 = v_5 then (xgI h o0 7 5).bind fun v_7 => (if v_7 ≤ x2 then j62_41 o0 x1 x2 h else j62_31 o0 x1 x2 h) else j62_41 o0 x1 x2 h)))
theorem fn62_call {xs : List Int32} {d : Nat} (hd : 2 ≤ d) {o0 : Option Nat} {x1 : Int32} {x2 : Int32} {h : xH} {r : xH} (hf : fn62 o0 x1 x2 h = some r) : xCall (xTa xs) d 62 [xrv o0, .int x1, .int x2] h (none, r) := by
  obtain ⟨d, rfl⟩ : ∃ d2, d = d2 + 1 := ⟨d - 1, by omega⟩
  replace hd : 1 ≤ d := by omega
  refine call_of2 (fl := [xrv o0, .int x1, .int x2]) (Ls := [xrv o0, .int x1, .int x2]) m62 (by simp [xfl, xrv_cat, xc_i, xc_j, xc_a, xc_f]) (Nat.le_of_ble_eq_true rfl) rfl ?_
  unfold fn62 at hf
  refine sh_aload (i' := 0) (n := 1) i62_0 (Or.inr ⟨rfl, by decide⟩) rfl ?_
  obtain ⟨v_1, ev_1, hf⟩ := x_bind hf
  refine sh_getI i62_1 f62_38 ev_1 ?_
  refine ev_if (t := 31) i62_4 rfl (fun c_2 => ?_) (fun c_2 => ?_)
  · replace hf := x_pos (show v_1 = 0 from c_2) hf
    exact j62_31_ok hd hf
  · replace hf := x_neg (show ¬ v_1 = 0 from c_2) hf
    refine ev_do i62_7 rfl ?_
    refine sh_aload (i' := 0) (n := 1) i62_8 (Or.inr ⟨rfl, by decide⟩) rfl ?_
    obtain ⟨v_3, ev_3, hf⟩ := x_bind hf
    refine sh_getI i62_9 f62_42 ev_3 ?_
    refine ev_icmp (t := 31) i62_12 rfl (fun c_4 => ?_) (fun c_4 => ?_)
    · replace hf := x_pos (show x1 < v_3 from c_4) hf
      exact j62_31_ok hd hf
    · replace hf := x_neg (show ¬ x1 < v_3 from c_4) hf
      refine ev_do i62_15 rfl ?_
      refine sh_aload (i' := 0) (n := 1) i62_16 (Or.inr ⟨rfl, by decide⟩) rfl ?_
      obtain ⟨v_5, ev_5, hf⟩ := x_bind hf
      refine sh_getI i62_17 f62_42 ev_5 ?_
      refine ev_icmp (t := 41) i62_20 rfl (fun c_6 => ?_) (fun c_6 => ?_)
      · replace hf := x_neg (show ¬ x1 = v_5 from c_6) hf
        exact j62_41_ok hd hf
      · replace hf := x_pos (show x1 = v_5 from Decidable.byContradiction (fun h9 => c_6 h9)) hf
        refine ev_do i62_23 rfl ?_
        refine sh_aload (i' := 0) (n := 1) i62_24 (Or.inr ⟨rfl, by decide⟩) rfl ?_
        obtain ⟨v_7, ev_7, hf⟩ := x_bind hf
        refine sh_getI i62_25 f62_38 ev_7 ?_
        refine ev_icmp (t := 41) i62_28 rfl (fun c_8 => ?_) (fun c_8 => ?_)
        · replace hf := x_pos (show v_7 ≤ x2 from c_8) hf
          exact j62_41_ok hd hf
        · replace hf := x_neg (show ¬ v_7 ≤ x2 from c_8) hf
          exact j62_31_ok hd hf
end
section
def j63_63  (o0 : Option Nat) (x1 : Int32) (h : xH) : Option xH := some h
theorem j63_63_ok {xs : List Int32} {d : Nat} (hd : 2 ≤ d) {o0 : Option Nat} {x1 : Int32} {h : xH} {r : xH} (hf : j63_63 o0 x1 h = some r) : xEv (xTa xs) d 63 (63, [xrv o0, .int x1], [], h) (none, r) := by
  unfold j63_63 at hf
  obtain rfl := Option.some.inj hf
  exact sh_vret i63_63 m63 rfl
def j63_57 (k2 : Option Nat → Int32 → xH → Option xH) (o0 : Option Nat) (x1 : Int32) (h : xH) : Option xH := k2 o0 (x1 + 1) h
theorem j63_57_ok {xs : List Int32} {d : Nat} (hd : 2 ≤ d) {k2 : Option Nat → Int32 → xH → Option xH} (hk2 : ∀ {o0 : Option Nat} {x1 : Int32} {h : xH} {r : xH}, k2 o0 x1 h = some r → xEv (xTa xs) d 63 (2, [xrv o0, .int x1], [], h) (none, r)) {o0 : Option Nat} {x1 : Int32} {h : xH} {r : xH} (hf : j63_57 k2 o0 x1 h = some r) : xEv (xTa xs) d 63 (57, [xrv o0, .int x1], [], h) (none, r) := by
  unfold j63_57 at hf
  refine sh_inc (i' := 1) i63_57 rfl (xokst_of (Nat.le_of_ble_eq_true rfl) (xrv_cat (o0))) rfl ?_
  refine sh_goto (t := 2) i63_60 rfl ?_
  exact hk2 hf
def l63_2  : Nat → Option Nat → Int32 → xH → Option xH
  | 0 => fun _ _ _ => none
  | n + 1 => fun o0 x1 h => (xgR h o0 7 2).bind fun a_1 => (xgI h a_1 9 1).bind fun v_2 => (if v_2 ≤ x1 then j63_63 o0 x1 h else (xgI h o0 7 5).bind fun v_4 => (if v_4 = 0 then (xgR h o0 7 2).bind fun a_6 => (xcv h a_6 9).bind fun _ => (fn96 a_6 x1 h).bind fun r_7 => (if r_7.1 = 10 then j63_57 (l63_2 n) o0 x1 r_7.2 else (xgR r_7.2 o0 7 2).bind fun a_9 => (xcv r_7.2 a_9 9).bind fun _ => (fn96 a_9 x1 r_7.2).bind fun r_10 => (fn135 r_10.1 32 126 r_10.2).bind fun r_11 => (if r_11.1 = 0 then (xcv r_11.2 o0 7).bind fun _ => (fn62 o0 x1 1 r_11.2).bind fun h_13 => j63_57 (l63_2 n) o0 x1 h_13 else j63_57 (l63_2 n) o0 x1 r_11.2)) else j63_63 o0 x1 h))
theorem l63_2_ok {xs : List Int32} {d : Nat} (hd : 2 ≤ d) : ∀ (n : Nat) {o0 : Option Nat} {x1 : Int32} {h : xH} {r : xH}, l63_2 n o0 x1 h = some r → xEv (xTa xs) d 63 (2, [xrv o0, .int x1], [], h) (none, r) := by
  intro n
  induction n with
  | zero => intros; rename_i hf; cases hf
  | succ n ih =>
    intro o0 x1 h r hf
    replace hf : ((xgR h o0 7 2).bind fun a_1 => (xgI h a_1 9 1).bind fun v_2 => (if v_2 ≤ x1 then j63_63 o0 x1 h else (xgI h o0 7 5).bind fun v_4 => (if v_4 = 0 then (xgR h o0 7 2).bind fun a_6 => (xcv h a_6 9).bind fun _ => (fn96 a_6 x1 h).bind fun r_7 => (if r_7.1 = 10 then j63_57 (l63_2 n) o0 x1 r_7.2 else (xgR r_7.2 o0 7 2).bind fun a_9 => (xcv r_7.2 a_9 9).bind fun _ => (fn96 a_9 x1 r_7.2).bind fun r_10 => (fn135 r_10.1 32 126 r_10.2).bind fun r_11 => (if r_11.1 = 0 then (xcv r_11.2 o0 7).bind fun _ => (fn62 o0 x1 1 r_11.2).bind fun h_13 => j63_57 (l63_2 n) o0 x1 h_13 else j63_57 (l63_2 n) o0 x1 r_11.2)) else j63_63 o0 x1 h))) = some r := hf
    refine ev_do i63_2 rfl ?_
    refine sh_aload (i' := 0) (n := 1) i63_3 (Or.inr ⟨rfl, by decide⟩) rfl ?_
    obtain ⟨a_1, ea_1, hf⟩ := x_bind hf
    refine sh_getR i63_4 f63_29 ea_1 ?_
    obtain ⟨v_2, ev_2, hf⟩ := x_bind hf
    refine sh_getI i63_7 f63_48 ev_2 ?_
    refine ev_icmp (t := 63) i63_10 rfl (fun c_3 => ?_) (fun c_3 => ?_)
    · replace hf := x_pos (show v_2 ≤ x1 from c_3) hf
      exact j63_63_ok hd hf
    · replace hf := x_neg (show ¬ v_2 ≤ x1 from c_3) hf
      refine sh_aload (i' := 0) (n := 1) i63_13 (Or.inr ⟨rfl, by decide⟩) rfl ?_
      obtain ⟨v_4, ev_4, hf⟩ := x_bind hf
      refine sh_getI i63_14 f63_38 ev_4 ?_
      refine ev_if (t := 63) i63_17 rfl (fun c_5 => ?_) (fun c_5 => ?_)
      · replace hf := x_neg (show ¬ v_4 = 0 from c_5) hf
        exact j63_63_ok hd hf
      · replace hf := x_pos (show v_4 = 0 from Decidable.byContradiction (fun h9 => c_5 h9)) hf
        refine sh_aload (i' := 0) (n := 1) i63_20 (Or.inr ⟨rfl, by decide⟩) rfl ?_
        obtain ⟨a_6, ea_6, hf⟩ := x_bind hf
        refine sh_getR i63_21 f63_29 ea_6 ?_
        refine ev_do i63_24 rfl ?_
        obtain ⟨_, eu_16, hf⟩ := x_bind hf
        obtain ⟨r_7, er_7, hf⟩ := x_bind hf
        refine sh_inv (as := [.int x1]) (z := (some (.int r_7.1), r_7.2)) i63_25 v63_73 (Or.inl ⟨by decide, rfl⟩) m96 rfl (Nat.le_of_ble_eq_true rfl) eu_16 (fn96_call (by omega) er_7) ?_
        refine ev_do i63_28 rfl ?_
        refine ev_icmp (t := 57) i63_30 rfl (fun c_8 => ?_) (fun c_8 => ?_)
        · replace hf := x_pos (show r_7.1 = 10 from c_8) hf
          exact j63_57_ok hd ih hf
        · replace hf := x_neg (show ¬ r_7.1 = 10 from c_8) hf
          refine sh_aload (i' := 0) (n := 1) i63_33 (Or.inr ⟨rfl, by decide⟩) rfl ?_
          obtain ⟨a_9, ea_9, hf⟩ := x_bind hf
          refine sh_getR i63_34 f63_29 ea_9 ?_
          refine ev_do i63_37 rfl ?_
          obtain ⟨_, eu_15, hf⟩ := x_bind hf
          obtain ⟨r_10, er_10, hf⟩ := x_bind hf
          refine sh_inv (as := [.int x1]) (z := (some (.int r_10.1), r_10.2)) i63_38 v63_73 (Or.inl ⟨by decide, rfl⟩) m96 rfl (Nat.le_of_ble_eq_true rfl) eu_15 (fn96_call (by omega) er_10) ?_
          refine ev_do i63_41 rfl ?_
          refine ev_do i63_43 rfl ?_
          obtain ⟨r_11, er_11, hf⟩ := x_bind hf
          refine ev_sta (as := [.int 126, .int 32, .int r_10.1]) (z := (some (.int r_11.1), r_11.2)) i63_45 v63_77 (Or.inr rfl) m135 rfl (Nat.le_of_ble_eq_true rfl) (fn135_call (by omega) er_11) ?_
          refine ev_if (t := 57) i63_48 rfl (fun c_12 => ?_) (fun c_12 => ?_)
          · replace hf := x_neg (show ¬ r_11.1 = 0 from c_12) hf
            exact j63_57_ok hd ih hf
          · replace hf := x_pos (show r_11.1 = 0 from Decidable.byContradiction (fun h9 => c_12 h9)) hf
            refine sh_aload (i' := 0) (n := 1) i63_51 (Or.inr ⟨rfl, by decide⟩) rfl ?_
            refine ev_do i63_52 rfl ?_
            refine ev_do i63_53 rfl ?_
            obtain ⟨_, eu_14, hf⟩ := x_bind hf
            obtain ⟨h_13, eh_13, hf⟩ := x_bind hf
            refine sh_inv (as := [.int 1, .int x1]) (z := (none, h_13)) i63_54 v63_81 (Or.inl ⟨by decide, rfl⟩) m62 rfl (Nat.le_of_ble_eq_true rfl) eu_14 (fn62_call (by omega) eh_13) ?_
            exact j63_57_ok hd ih hf
def fn63 (o0 : Option Nat) (h : xH) : Option xH := l63_2 xFuel o0 0 h
theorem fn63_call {xs : List Int32} {d : Nat} (hd : 3 ≤ d) {o0 : Option Nat} {h : xH} {r : xH} (hf : fn63 o0 h = some r) : xCall (xTa xs) d 63 [xrv o0] h (none, r) := by
  obtain ⟨d, rfl⟩ : ∃ d2, d = d2 + 1 := ⟨d - 1, by omega⟩
  replace hd : 2 ≤ d := by omega
  refine call_of2 (fl := [xrv o0]) (Ls := [xrv o0, .float 0]) m63 (by simp [xfl, xrv_cat, xc_i, xc_j, xc_a, xc_f]) (Nat.le_of_ble_eq_true rfl) rfl ?_
  unfold fn63 at hf
  refine ev_do i63_0 rfl ?_
  refine sh_istore (i' := 1) (n := 1) i63_1 (Or.inr ⟨rfl, by decide⟩) (xokst_of (Nat.le_of_ble_eq_true rfl) (xrv_cat (o0))) ?_
  exact l63_2_ok hd xFuel hf
end
