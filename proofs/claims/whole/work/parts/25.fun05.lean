section
def j48_68  (o0 : Option Nat) (o1 : Option Nat) (o2 : Option Nat) (x3 : Int32) (h : xH) : Option xH := some h
theorem j48_68_ok {xs : List Int32} {d : Nat} (hd : 6 ≤ d) {u4 : Value} {o0 : Option Nat} {o1 : Option Nat} {o2 : Option Nat} {x3 : Int32} {h : xH} {r : xH} (hu4 : u4.category = 1) (hf : j48_68 o0 o1 o2 x3 h = some r) : xEv (xTa xs) d 48 (68, [xrv o0, xrv o1, xrv o2, .int x3, u4], [], h) (none, r) := by
  unfold j48_68 at hf
  obtain rfl := Option.some.inj hf
  exact sh_vret i48_68 m48 rfl
def j48_39 (k2 : Option Nat → Option Nat → Option Nat → Int32 → xH → Option xH) (o0 : Option Nat) (o1 : Option Nat) (o2 : Option Nat) (x3 : Int32) (o4 : Option Nat) (h : xH) : Option xH := k2 o0 o1 o2 (x3 + 1) h
theorem j48_39_ok {xs : List Int32} {d : Nat} (hd : 6 ≤ d) {k2 : Option Nat → Option Nat → Option Nat → Int32 → xH → Option xH} (hk2 : ∀ {u4 : Value} {o0 : Option Nat} {o1 : Option Nat} {o2 : Option Nat} {x3 : Int32} {h : xH} {r : xH}, u4.category = 1 → k2 o0 o1 o2 x3 h = some r → xEv (xTa xs) d 48 (2, [xrv o0, xrv o1, xrv o2, .int x3, u4], [], h) (none, r)) {o0 : Option Nat} {o1 : Option Nat} {o2 : Option Nat} {x3 : Int32} {o4 : Option Nat} {h : xH} {r : xH} (hf : j48_39 k2 o0 o1 o2 x3 o4 h = some r) : xEv (xTa xs) d 48 (39, [xrv o0, xrv o1, xrv o2, .int x3, xrv o4], [], h) (none, r) := by
  unfold j48_39 at hf
  refine sh_inc (i' := 3) i48_39 rfl (xokst_of (Nat.le_of_ble_eq_true rfl) (xrv_cat (o2))) rfl ?_
  refine sh_goto (t := 2) i48_42 rfl ?_
  exact hk2 (xrv_cat (o4)) hf
def l48_2  : Nat → Option Nat → Option Nat → Option Nat → Int32 → xH → Option xH
  | 0 => fun _ _ _ _ _ => none
  | n + 1 => fun o0 o1 o2 x3 h => (xgI h o2 2 6).bind fun v_1 => (if v_1 ≤ x3 then (xgI h o2 2 4).bind fun v_3 => (if v_3 = 0 then j48_68 o0 o1 o2 x3 h else (fn49 o1 o2 none h).bind fun r_5 => (if r_5.1 = 0 then (xcv r_5.2 o0 4).bind fun _ => (fn41 o0 7 0 r_5.2).bind fun h_7 => j48_68 o0 o1 o2 x3 h_7 else j48_68 o0 o1 o2 x3 r_5.2)) else (xcv h o2 2).bind fun _ => (fn15 o2 x3 h).bind fun r_9 => (if r_9.1 = none then j48_39 (l48_2 n) o0 o1 o2 x3 r_9.1 r_9.2 else (fn49 o1 o2 r_9.1 r_9.2).bind fun r_11 => (if r_11.1 = 0 then (xcv r_11.2 o0 4).bind fun _ => (fn41 o0 6 x3 r_11.2).bind fun h_13 => j48_39 (l48_2 n) o0 o1 o2 x3 r_9.1 h_13 else j48_39 (l48_2 n) o0 o1 o2 x3 r_9.1 r_11.2)))
theorem l48_2_ok {xs : List Int32} {d : Nat} (hd : 6 ≤ d) : ∀ (n : Nat) {u4 : Value} {o0 : Option Nat} {o1 : Option Nat} {o2 : Option Nat} {x3 : Int32} {h : xH} {r : xH} (hu4 : u4.category = 1), l48_2 n o0 o1 o2 x3 h = some r → xEv (xTa xs) d 48 (2, [xrv o0, xrv o1, xrv o2, .int x3, u4], [], h) (none, r) := by
  intro n
  induction n with
  | zero => intros; rename_i hf; cases hf
  | succ n ih =>
    intro u4 o0 o1 o2 x3 h r hu4 hf
    replace hf : ((xgI h o2 2 6).bind fun v_1 => (if v_1 ≤ x3 then (xgI h o2 2 4).bind fun v_3 => (if v_3 = 0 then j48_68 o0 o1 o2 x3 h else (fn49 o1 o2 none h).bind fun r_5 => (if r_5.1 = 0 then (xcv r_5.2 o0 4).bind fun _ => (fn41 o0 7 0 r_5.2).bind fun h_7 => j48_68 o0 o1 o2 x3 h_7 else j48_68 o0 o1 o2 x3 r_5.2)) else (xcv h o2 2).bind fun _ => (fn15 o2 x3 h).bind fun r_9 => (if r_9.1 = none then j48_39 (l48_2 n) o0 o1 o2 x3 r_9.1 r_9.2 else (fn49 o1 o2 r_9.1 r_9.2).bind fun r_11 => (if r_11.1 = 0 then (xcv r_11.2 o0 4).bind fun _ => (fn41 o0 6 x3 r_11.2).bind fun h_13 => j48_39 (l48_2 n) o0 o1 o2 x3 r_9.1 h_13 else j48_39 (l48_2 n) o0 o1 o2 x3 r_9.1 r_11.2)))) = some r := hf
    refine ev_do i48_2 rfl ?_
    refine sh_aload (i' := 2) (n := 1) i48_3 (Or.inr ⟨rfl, by decide⟩) rfl ?_
    obtain ⟨v_1, ev_1, hf⟩ := x_bind hf
    refine sh_getI i48_4 f48_128 ev_1 ?_
    refine ev_icmp (t := 45) i48_7 rfl (fun c_2 => ?_) (fun c_2 => ?_)
    · replace hf := x_pos (show v_1 ≤ x3 from c_2) hf
      refine sh_aload (i' := 2) (n := 1) i48_45 (Or.inr ⟨rfl, by decide⟩) rfl ?_
      obtain ⟨v_3, ev_3, hf⟩ := x_bind hf
      refine sh_getI i48_46 f48_124 ev_3 ?_
      refine ev_if (t := 68) i48_49 rfl (fun c_4 => ?_) (fun c_4 => ?_)
      · replace hf := x_pos (show v_3 = 0 from c_4) hf
        exact j48_68_ok hd hu4 hf
      · replace hf := x_neg (show ¬ v_3 = 0 from c_4) hf
        refine sh_aload (i' := 1) (n := 1) i48_52 (Or.inr ⟨rfl, by decide⟩) rfl ?_
        refine sh_aload (i' := 2) (n := 1) i48_53 (Or.inr ⟨rfl, by decide⟩) rfl ?_
        refine sh_cnull i48_54 ?_
        obtain ⟨r_5, er_5, hf⟩ := x_bind hf
        refine ev_sta (as := [xrv none, xrv o2, xrv o1]) (z := (some (.int r_5.1), r_5.2)) i48_55 v48_135 (Or.inl rfl) m49 rfl (Nat.le_of_ble_eq_true rfl) (fn49_call (by omega) er_5) ?_
        refine ev_if (t := 68) i48_58 rfl (fun c_6 => ?_) (fun c_6 => ?_)
        · replace hf := x_neg (show ¬ r_5.1 = 0 from c_6) hf
          exact j48_68_ok hd hu4 hf
        · replace hf := x_pos (show r_5.1 = 0 from Decidable.byContradiction (fun h9 => c_6 h9)) hf
          refine sh_aload (i' := 0) (n := 1) i48_61 (Or.inr ⟨rfl, by decide⟩) rfl ?_
          refine ev_do i48_62 rfl ?_
          refine ev_do i48_64 rfl ?_
          obtain ⟨_, eu_8, hf⟩ := x_bind hf
          obtain ⟨h_7, eh_7, hf⟩ := x_bind hf
          refine sh_inv (as := [.int 0, .int 7]) (z := (none, h_7)) i48_65 v48_28 (Or.inl ⟨by decide, rfl⟩) m41 rfl (Nat.le_of_ble_eq_true rfl) eu_8 (fn41_call (by omega) eh_7) ?_
          exact j48_68_ok hd hu4 hf
    · replace hf := x_neg (show ¬ v_1 ≤ x3 from c_2) hf
      refine sh_aload (i' := 2) (n := 1) i48_10 (Or.inr ⟨rfl, by decide⟩) rfl ?_
      refine ev_do i48_11 rfl ?_
      obtain ⟨_, eu_15, hf⟩ := x_bind hf
      obtain ⟨r_9, er_9, hf⟩ := x_bind hf
      refine sh_inv (as := [.int x3]) (z := (some (xrv r_9.1), r_9.2)) i48_12 v48_131 (Or.inl ⟨by decide, rfl⟩) m15 rfl (Nat.le_of_ble_eq_true rfl) eu_15 (fn15_call (by omega) er_9) ?_
      refine sh_astore (i' := 4) (n := 2) i48_15 (Or.inl rfl) (xokst_of (Nat.le_of_ble_eq_true rfl) rfl) ?_
      refine sh_aload (i' := 4) (n := 2) i48_17 (Or.inl rfl) rfl ?_
      refine sh_null (t := 39) i48_19 rfl (fun c_10 => ?_) (fun c_10 => ?_)
      · replace hf := x_pos c_10 hf
        exact j48_39_ok hd ih hf
      · replace hf := x_neg c_10 hf
        refine sh_aload (i' := 1) (n := 1) i48_22 (Or.inr ⟨rfl, by decide⟩) rfl ?_
        refine sh_aload (i' := 2) (n := 1) i48_23 (Or.inr ⟨rfl, by decide⟩) rfl ?_
        refine sh_aload (i' := 4) (n := 2) i48_24 (Or.inl rfl) rfl ?_
        obtain ⟨r_11, er_11, hf⟩ := x_bind hf
        refine ev_sta (as := [xrv r_9.1, xrv o2, xrv o1]) (z := (some (.int r_11.1), r_11.2)) i48_26 v48_135 (Or.inl rfl) m49 rfl (Nat.le_of_ble_eq_true rfl) (fn49_call (by omega) er_11) ?_
        refine ev_if (t := 39) i48_29 rfl (fun c_12 => ?_) (fun c_12 => ?_)
        · replace hf := x_neg (show ¬ r_11.1 = 0 from c_12) hf
          exact j48_39_ok hd ih hf
        · replace hf := x_pos (show r_11.1 = 0 from Decidable.byContradiction (fun h9 => c_12 h9)) hf
          refine sh_aload (i' := 0) (n := 1) i48_32 (Or.inr ⟨rfl, by decide⟩) rfl ?_
          refine ev_do i48_33 rfl ?_
          refine ev_do i48_35 rfl ?_
          obtain ⟨_, eu_14, hf⟩ := x_bind hf
          obtain ⟨h_13, eh_13, hf⟩ := x_bind hf
          refine sh_inv (as := [.int x3, .int 6]) (z := (none, h_13)) i48_36 v48_28 (Or.inl ⟨by decide, rfl⟩) m41 rfl (Nat.le_of_ble_eq_true rfl) eu_14 (fn41_call (by omega) eh_13) ?_
          exact j48_39_ok hd ih hf
def fn48 (o0 : Option Nat) (o1 : Option Nat) (o2 : Option Nat) (h : xH) : Option xH := l48_2 xFuel o0 o1 o2 0 h
theorem fn48_call {xs : List Int32} {d : Nat} (hd : 7 ≤ d) {o0 : Option Nat} {o1 : Option Nat} {o2 : Option Nat} {h : xH} {r : xH} (hf : fn48 o0 o1 o2 h = some r) : xCall (xTa xs) d 48 [xrv o0, xrv o1, xrv o2] h (none, r) := by
  obtain ⟨d, rfl⟩ : ∃ d2, d = d2 + 1 := ⟨d - 1, by omega⟩
  replace hd : 6 ≤ d := by omega
  refine call_of2 (fl := [xrv o0, xrv o1, xrv o2]) (Ls := [xrv o0, xrv o1, xrv o2, .float 0, .float 0]) m48 (by simp [xfl, xrv_cat, xc_i, xc_j, xc_a, xc_f]) (Nat.le_of_ble_eq_true rfl) rfl ?_
  unfold fn48 at hf
  refine ev_do i48_0 rfl ?_
  refine sh_istore (i' := 3) (n := 1) i48_1 (Or.inr ⟨rfl, by decide⟩) (xokst_of (Nat.le_of_ble_eq_true rfl) (xrv_cat (o2))) ?_
  exact l48_2_ok hd xFuel rfl hf
end
section
def j42_56  (o0 : Option Nat) (o1 : Option Nat) (o2 : Option Nat) (o3 : Option Nat) (h : xH) : Option xH := (xcv h o0 4).bind fun _ => (fn48 o0 o1 o2 h).bind fun h_1 => some h_1
theorem j42_56_ok {xs : List Int32} {d : Nat} (hd : 7 ≤ d) {o0 : Option Nat} {o1 : Option Nat} {o2 : Option Nat} {o3 : Option Nat} {h : xH} {r : xH} (hf : j42_56 o0 o1 o2 o3 h = some r) : xEv (xTa xs) d 42 (56, [xrv o0, xrv o1, xrv o2, xrv o3], [], h) (none, r) := by
  unfold j42_56 at hf
  refine sh_aload (i' := 0) (n := 1) i42_56 (Or.inr ⟨rfl, by decide⟩) rfl ?_
  refine sh_aload (i' := 1) (n := 1) i42_57 (Or.inr ⟨rfl, by decide⟩) rfl ?_
  refine sh_aload (i' := 2) (n := 1) i42_58 (Or.inr ⟨rfl, by decide⟩) rfl ?_
  obtain ⟨_, eu_2, hf⟩ := x_bind hf
  obtain ⟨h_1, eh_1, hf⟩ := x_bind hf
  refine sh_inv (as := [xrv o2, xrv o1]) (z := (none, h_1)) i42_59 v42_56 (Or.inl ⟨by decide, rfl⟩) m48 rfl (Nat.le_of_ble_eq_true rfl) eu_2 (fn48_call (by omega) eh_1) ?_
  obtain rfl := Option.some.inj hf
  exact sh_vret i42_62 m42 rfl
def j42_19  (o0 : Option Nat) (o1 : Option Nat) (o2 : Option Nat) (h : xH) : Option xH := (xcv h o2 2).bind fun _ => (fn14 o2 h).bind fun r_1 => (if r_1.1 = none then j42_56 o0 o1 o2 r_1.1 r_1.2 else (xcv r_1.2 o0 4).bind fun _ => (fn43 o0 o1 r_1.1 r_1.2).bind fun h_3 => (xcv h_3 o1 8).bind fun _ => (fn92 o1 o2 h_3).bind fun r_4 => (xcv r_4.2 o0 4).bind fun _ => (fn45 o0 r_1.1 r_4.1 r_4.2).bind fun h_5 => (xcv h_5 o0 4).bind fun _ => (fn46 o0 o2 r_1.1 h_5).bind fun h_6 => (xcv h_6 o0 4).bind fun _ => (fn47 o0 o2 r_1.1 h_6).bind fun h_7 => j42_56 o0 o1 o2 r_1.1 h_7)
theorem j42_19_ok {xs : List Int32} {d : Nat} (hd : 7 ≤ d) {u3 : Value} {o0 : Option Nat} {o1 : Option Nat} {o2 : Option Nat} {h : xH} {r : xH} (hu3 : u3.category = 1) (hf : j42_19 o0 o1 o2 h = some r) : xEv (xTa xs) d 42 (19, [xrv o0, xrv o1, xrv o2, u3], [], h) (none, r) := by
  unfold j42_19 at hf
  refine sh_aload (i' := 2) (n := 1) i42_19 (Or.inr ⟨rfl, by decide⟩) rfl ?_
  obtain ⟨_, eu_13, hf⟩ := x_bind hf
  obtain ⟨r_1, er_1, hf⟩ := x_bind hf
  refine sh_inv (as := []) (z := (some (xrv r_1.1), r_1.2)) i42_20 v42_32 (Or.inl ⟨by decide, rfl⟩) m14 rfl (Nat.le_of_ble_eq_true rfl) eu_13 (fn14_call (by omega) er_1) ?_
  refine sh_astore (i' := 3) (n := 1) i42_23 (Or.inr ⟨rfl, by decide⟩) (xokst_of (Nat.le_of_ble_eq_true rfl) (xrv_cat (o2))) ?_
  refine sh_aload (i' := 3) (n := 1) i42_24 (Or.inr ⟨rfl, by decide⟩) rfl ?_
  refine sh_null (t := 56) i42_25 rfl (fun c_2 => ?_) (fun c_2 => ?_)
  · replace hf := x_pos c_2 hf
    exact j42_56_ok hd hf
  · replace hf := x_neg c_2 hf
    refine sh_aload (i' := 0) (n := 1) i42_28 (Or.inr ⟨rfl, by decide⟩) rfl ?_
    refine sh_aload (i' := 1) (n := 1) i42_29 (Or.inr ⟨rfl, by decide⟩) rfl ?_
    refine sh_aload (i' := 3) (n := 1) i42_30 (Or.inr ⟨rfl, by decide⟩) rfl ?_
    obtain ⟨_, eu_12, hf⟩ := x_bind hf
    obtain ⟨h_3, eh_3, hf⟩ := x_bind hf
    refine sh_inv (as := [xrv r_1.1, xrv o1]) (z := (none, h_3)) i42_31 v42_38 (Or.inl ⟨by decide, rfl⟩) m43 rfl (Nat.le_of_ble_eq_true rfl) eu_12 (fn43_call (by omega) eh_3) ?_
    refine sh_aload (i' := 0) (n := 1) i42_34 (Or.inr ⟨rfl, by decide⟩) rfl ?_
    refine sh_aload (i' := 3) (n := 1) i42_35 (Or.inr ⟨rfl, by decide⟩) rfl ?_
    refine sh_aload (i' := 1) (n := 1) i42_36 (Or.inr ⟨rfl, by decide⟩) rfl ?_
    refine sh_aload (i' := 2) (n := 1) i42_37 (Or.inr ⟨rfl, by decide⟩) rfl ?_
    obtain ⟨_, eu_11, hf⟩ := x_bind hf
    obtain ⟨r_4, er_4, hf⟩ := x_bind hf
    refine sh_inv (as := [xrv o2]) (z := (some (xrv r_4.1), r_4.2)) i42_38 v42_42 (Or.inl ⟨by decide, rfl⟩) m92 rfl (by simp [xcat, xrv_cat, xc_i, xc_j, xc_a, xc_f]) eu_11 (fn92_call (by omega) er_4) ?_
    obtain ⟨_, eu_10, hf⟩ := x_bind hf
    obtain ⟨h_5, eh_5, hf⟩ := x_bind hf
    refine sh_inv (as := [xrv r_4.1, xrv r_1.1]) (z := (none, h_5)) i42_41 v42_45 (Or.inl ⟨by decide, rfl⟩) m45 rfl (Nat.le_of_ble_eq_true rfl) eu_10 (fn45_call (by omega) eh_5) ?_
    refine sh_aload (i' := 0) (n := 1) i42_44 (Or.inr ⟨rfl, by decide⟩) rfl ?_
    refine sh_aload (i' := 2) (n := 1) i42_45 (Or.inr ⟨rfl, by decide⟩) rfl ?_
    refine sh_aload (i' := 3) (n := 1) i42_46 (Or.inr ⟨rfl, by decide⟩) rfl ?_
    obtain ⟨_, eu_9, hf⟩ := x_bind hf
    obtain ⟨h_6, eh_6, hf⟩ := x_bind hf
    refine sh_inv (as := [xrv r_1.1, xrv o2]) (z := (none, h_6)) i42_47 v42_49 (Or.inl ⟨by decide, rfl⟩) m46 rfl (Nat.le_of_ble_eq_true rfl) eu_9 (fn46_call (by omega) eh_6) ?_
    refine sh_aload (i' := 0) (n := 1) i42_50 (Or.inr ⟨rfl, by decide⟩) rfl ?_
    refine sh_aload (i' := 2) (n := 1) i42_51 (Or.inr ⟨rfl, by decide⟩) rfl ?_
    refine sh_aload (i' := 3) (n := 1) i42_52 (Or.inr ⟨rfl, by decide⟩) rfl ?_
    obtain ⟨_, eu_8, hf⟩ := x_bind hf
    obtain ⟨h_7, eh_7, hf⟩ := x_bind hf
    refine sh_inv (as := [xrv r_1.1, xrv o2]) (z := (none, h_7)) i42_53 v42_53 (Or.inl ⟨by decide, rfl⟩) m47 rfl (Nat.le_of_ble_eq_true rfl) eu_8 (fn47_call (by omega) eh_7) ?_
    exact j42_56_ok hd hf
def fn42 (o0 : Option Nat) (o1 : Option Nat) (o2 : Option Nat) (h : xH) : Option xH := (xpF h o0 4 2 .int (.int 0)).bind fun h_1 => (xcv h_1 o1 8).bind fun _ => (fn91 o1 o2 h_1).bind fun r_2 => (if r_2.1 = none then (xcv r_2.2 o0 4).bind fun _ => (fn41 o0 1 0 r_2.2).bind fun h_4 => j42_19 o0 o1 o2 h_4 else j42_19 o0 o1 o2 r_2.2)
theorem fn42_call {xs : List Int32} {d : Nat} (hd : 8 ≤ d) {o0 : Option Nat} {o1 : Option Nat} {o2 : Option Nat} {h : xH} {r : xH} (hf : fn42 o0 o1 o2 h = some r) : xCall (xTa xs) d 42 [xrv o0, xrv o1, xrv o2] h (none, r) := by
  obtain ⟨d, rfl⟩ : ∃ d2, d = d2 + 1 := ⟨d - 1, by omega⟩
  replace hd : 7 ≤ d := by omega
  refine call_of2 (fl := [xrv o0, xrv o1, xrv o2]) (Ls := [xrv o0, xrv o1, xrv o2, .float 0]) m42 (by simp [xfl, xrv_cat, xc_i, xc_j, xc_a, xc_f]) (Nat.le_of_ble_eq_true rfl) rfl ?_
  unfold fn42 at hf
  refine sh_aload (i' := 0) (n := 1) i42_0 (Or.inr ⟨rfl, by decide⟩) rfl ?_
  refine ev_do i42_1 rfl ?_
  obtain ⟨h_1, eh_1, hf⟩ := x_bind hf
  refine sh_put i42_2 f42_18 (by decide) rfl eh_1 ?_
  refine sh_aload (i' := 1) (n := 1) i42_5 (Or.inr ⟨rfl, by decide⟩) rfl ?_
  refine sh_aload (i' := 2) (n := 1) i42_6 (Or.inr ⟨rfl, by decide⟩) rfl ?_
  obtain ⟨_, eu_6, hf⟩ := x_bind hf
  obtain ⟨r_2, er_2, hf⟩ := x_bind hf
  refine sh_inv (as := [xrv o2]) (z := (some (xrv r_2.1), r_2.2)) i42_7 v42_22 (Or.inl ⟨by decide, rfl⟩) m91 rfl (Nat.le_of_ble_eq_true rfl) eu_6 (fn91_call (by omega) er_2) ?_
  refine sh_nnul (t := 19) i42_10 rfl (fun c_3 => ?_) (fun c_3 => ?_)
  · replace hf := x_pos c_3 hf
    refine sh_aload (i' := 0) (n := 1) i42_13 (Or.inr ⟨rfl, by decide⟩) rfl ?_
    refine ev_do i42_14 rfl ?_
    refine ev_do i42_15 rfl ?_
    obtain ⟨_, eu_5, hf⟩ := x_bind hf
    obtain ⟨h_4, eh_4, hf⟩ := x_bind hf
    refine sh_inv (as := [.int 0, .int 1]) (z := (none, h_4)) i42_16 v42_28 (Or.inl ⟨by decide, rfl⟩) m41 rfl (Nat.le_of_ble_eq_true rfl) eu_5 (fn41_call (by omega) eh_4) ?_
    exact j42_19_ok hd rfl hf
  · replace hf := x_neg c_3 hf
    exact j42_19_ok hd rfl hf
end
section
def fn50 (o0 : Option Nat) (h : xH) : Option xH := (o0).bind fun a_1 => (some (xnew h (9, [.null, .int 0]))).bind fun h_2 => (xcv h_2 (some h.1) 9).bind fun _ => (fn95 (some h.1) 4000 h_2).bind fun h_3 => (xpF h_3 o0 5 0 (.object "DocFormat$Text") (xrv (some h.1))).bind fun h_4 => (xnA h_4 13 (.int 0) 4000).bind fun h_5 => (xpF h_5 o0 5 1 (.array .int) (xrv (some h_4.1))).bind fun h_6 => (xnA h_6 16 .null 40).bind fun h_7 => (xpF h_7 o0 5 2 (.array (.object "DocFormat$Entry")) (xrv (some h_6.1))).bind fun h_8 => some h_8
theorem fn50_call {xs : List Int32} {d : Nat} (hd : 3 ≤ d) {o0 : Option Nat} {h : xH} {r : xH} (hf : fn50 o0 h = some r) : xCall (xTa xs) d 50 [xrv o0] h (none, r) := by
  obtain ⟨d, rfl⟩ : ∃ d2, d = d2 + 1 := ⟨d - 1, by omega⟩
  replace hd : 2 ≤ d := by omega
  refine call_of2 (fl := [xrv o0]) (Ls := [xrv o0]) m50 (by simp [xfl, xrv_cat, xc_i, xc_j, xc_a, xc_f]) (Nat.le_of_ble_eq_true rfl) rfl ?_
  unfold fn50 at hf
  refine sh_aload (i' := 0) (n := 1) i50_0 (Or.inr ⟨rfl, by decide⟩) rfl ?_
  obtain ⟨a_1, ea_1, hf⟩ := x_bind hf
  refine sh_obj i50_1 v50_3 (Nat.le_of_ble_eq_true rfl) ea_1 ?_
  refine sh_aload (i' := 0) (n := 1) i50_4 (Or.inr ⟨rfl, by decide⟩) rfl ?_
  obtain ⟨h_2, eh_2, hf⟩ := x_bind hf
  refine sh_new (fs := [.null, .int 0]) i50_5 c50_9 (by decide) rfl ?_
  rw [Option.some.inj eh_2]
  refine sh_dup i50_8 (xrv_cat (some h.1)) ?_
  refine ev_do i50_9 rfl ?_
  obtain ⟨_, eu_9, hf⟩ := x_bind hf
  obtain ⟨h_3, eh_3, hf⟩ := x_bind hf
  refine sh_inv (as := [.int 4000]) (z := (none, h_3)) i50_12 v50_11 (Or.inr ⟨by decide, rfl⟩) m95 rfl (by simp [xcat, xrv_cat, xc_i, xc_j, xc_a, xc_f]) eu_9 (fn95_call (by omega) eh_3) ?_
  obtain ⟨h_4, eh_4, hf⟩ := x_bind hf
  refine sh_put i50_15 f50_14 (by decide) rfl eh_4 ?_
  refine sh_aload (i' := 0) (n := 1) i50_18 (Or.inr ⟨rfl, by decide⟩) rfl ?_
  refine ev_do i50_19 rfl ?_
  obtain ⟨h_5, eh_5, hf⟩ := x_bind hf
  refine sh_newa (tg := 13) (n := 2) (v := (.int 0)) i50_22 (fun _ _ _ => rfl) eh_5 ?_
  obtain ⟨h_6, eh_6, hf⟩ := x_bind hf
  refine sh_put i50_24 f50_20 (by decide) rfl eh_6 ?_
  refine sh_aload (i' := 0) (n := 1) i50_27 (Or.inr ⟨rfl, by decide⟩) rfl ?_
  refine ev_do i50_28 rfl ?_
  obtain ⟨h_7, eh_7, hf⟩ := x_bind hf
  refine sh_newa (tg := 16) (n := 3) (v := .null) i50_30 (fun _ _ _ => by show (match xtA (xTa xs) 50 24 with | some tg => if 15 ≤ tg ∧ tg < 19 then xmka tg 3 .null _ _ _ _ else none | none => none) = _; rw [a50_24]; rfl) eh_7 ?_
  obtain ⟨h_8, eh_8, hf⟩ := x_bind hf
  refine sh_put i50_33 f50_26 (by decide) rfl eh_8 ?_
  obtain rfl := Option.some.inj hf
  exact sh_vret i50_36 m50 rfl
end
section
def fn60 (o0 : Option Nat) (h : xH) : Option xH := (o0).bind fun a_1 => (some (xnew h (9, [.null, .int 0]))).bind fun h_2 => (xcv h_2 (some h.1) 9).bind fun _ => (fn95 (some h.1) 10 h_2).bind fun h_3 => (xpF h_3 o0 7 0 (.object "DocFormat$Text") (xrv (some h.1))).bind fun h_4 => some h_4
theorem fn60_call {xs : List Int32} {d : Nat} (hd : 3 ≤ d) {o0 : Option Nat} {h : xH} {r : xH} (hf : fn60 o0 h = some r) : xCall (xTa xs) d 60 [xrv o0] h (none, r) := by
  obtain ⟨d, rfl⟩ : ∃ d2, d = d2 + 1 := ⟨d - 1, by omega⟩
  replace hd : 2 ≤ d := by omega
  refine call_of2 (fl := [xrv o0]) (Ls := [xrv o0]) m60 (by simp [xfl, xrv_cat, xc_i, xc_j, xc_a, xc_f]) (Nat.le_of_ble_eq_true rfl) rfl ?_
  unfold fn60 at hf
  refine sh_aload (i' := 0) (n := 1) i60_0 (Or.inr ⟨rfl, by decide⟩) rfl ?_
  obtain ⟨a_1, ea_1, hf⟩ := x_bind hf
  refine sh_obj i60_1 v60_3 (Nat.le_of_ble_eq_true rfl) ea_1 ?_
  refine sh_aload (i' := 0) (n := 1) i60_4 (Or.inr ⟨rfl, by decide⟩) rfl ?_
  obtain ⟨h_2, eh_2, hf⟩ := x_bind hf
  refine sh_new (fs := [.null, .int 0]) i60_5 c60_9 (by decide) rfl ?_
  rw [Option.some.inj eh_2]
  refine sh_dup i60_8 (xrv_cat (some h.1)) ?_
  refine ev_do i60_9 rfl ?_
  obtain ⟨_, eu_5, hf⟩ := x_bind hf
  obtain ⟨h_3, eh_3, hf⟩ := x_bind hf
  refine sh_inv (as := [.int 10]) (z := (none, h_3)) i60_11 v60_11 (Or.inr ⟨by decide, rfl⟩) m95 rfl (by simp [xcat, xrv_cat, xc_i, xc_j, xc_a, xc_f]) eu_5 (fn95_call (by omega) eh_3) ?_
  obtain ⟨h_4, eh_4, hf⟩ := x_bind hf
  refine sh_put i60_14 f60_14 (by decide) rfl eh_4 ?_
  obtain rfl := Option.some.inj hf
  exact sh_vret i60_17 m60 rfl
end
section
def j62_41  (o0 : Option Nat) (x1 : Int32) (x2 : Int32) (h : xH) : Option xH := some h
theorem j62_41_ok {xs : List Int32} {d : Nat} (hd : 1 ≤ d) {o0 : Option Nat} {x1 : Int32} {x2 : Int32} {h : xH} {r : xH} (hf : j62_41 o0 x1 x2 h = some r) : xEv (xTa xs) d 62 (41, [xrv o0, .int x1, .int x2], [], h) (none, r) := by
  unfold j62_41 at hf
  obtain rfl := Option.some.inj hf
  exact sh_vret i62_41 m62 rfl
def j62_31  (o0 : Option Nat) (x1 : Int32) (x2 : Int32) (h : xH) : Option xH := (xpF h o0 7 5 .int (.int x2)).bind fun h_1 => (xpF h_1 o0 7 6 .int (.int x1)).bind fun h_2 => j62_41 o0 x1 x2 h_2
theorem j62_31_ok {xs : List Int32} {d : Nat} (hd : 1 ≤ d) {o0 : Option Nat} {x1 : Int32} {x2 : Int32} {h : xH} {r : xH} (hf : j62_31 o0 x1 x2 h = some r) : xEv (xTa xs) d 62 (31, [xrv o0, .int x1, .int x2], [], h) (none, r) := by
  unfold j62_31 at hf
  refine sh_aload (i' := 0) (n := 1) i62_31 (Or.inr ⟨rfl, by decide⟩) rfl ?_
  refine ev_do i62_32 rfl ?_
  obtain ⟨h_1, eh_1, hf⟩ := x_bind hf
  refine sh_put i62_33 f62_38 (by decide) rfl eh_1 ?_
  refine sh_aload (i' := 0) (n := 1) i62_36 (Or.inr ⟨rfl, by decide⟩) rfl ?_
  refine ev_do i62_37 rfl ?_
  obtain ⟨h_2, eh_2, hf⟩ := x_bind hf
  refine sh_put i62_38 f62_42 (by decide) rfl eh_2 ?_
  exact j62_41_ok hd hf
def fn62 (o0 : Option Nat) (x1 : Int32) (x2 : Int32) (h : xH) : Option xH := (xgI h o0 7 5).bind fun v_1 => (if v_1 = 0 then j62_31 o0 x1 x2 h else (xgI h o0 7 6).bind fun v_3 => (if x1 < v_3 then j62_31 o0 x1 x2 h else (xgI h o0 7 6).bind fun v_5 => (if x1 = v_5 then (xgI h o0 7 5).bind fun v_7 => (if v_7 ≤ x2 then j62_41 o0 x1 x2 h else j62_31 o0 x1 x2 h) else j62_41 o0 x1 x2 h)))
theorem fn62_call {xs : List Int32} {d : Nat} (hd : 2 ≤ d) {o0 : Option Nat} {x1 : Int32} {x2 : Int32} {h : xH} {r : xH} (hf : fn62 o0 x1 x2 h = some r) : xCall (xTa xs) d 62 [xrv o0, .int x1, .int x2] h (none, r) := by
  obtain ⟨d, rfl⟩ : ∃ d2, d = d2 + 1 := ⟨d - 1, by omega⟩
  replace hd : 1 ≤ d := by omega
  refine call_of2 (fl := [xrv o0, .int x1, .int x2]) (Ls := [xrv o0, .int x1, .int x2]) m62 (by simp [xfl, xrv_cat, xc_i, xc_j, xc_a, xc_f]) (Nat.le_of_ble_eq_true rfl) rfl ?_
  unfold fn62 at hf
  refine sh_aload (i' := 0) (n := 1) i62_0 (Or.inr ⟨rfl, by decide⟩) rfl ?_
  obtain ⟨v_1, ev_1, hf⟩ := x_bind hf
  refine sh_getI i62_1 f62_38 ev_1 ?_
  refine ev_if (t := 31) i62_4 rfl (fun c_2 => ?_) (fun c_2 => ?_)
  · replace hf := x_pos (show v_1 = 0 from c_2) hf
    exact j62_31_ok hd hf
  · replace hf := x_neg (show ¬ v_1 = 0 from c_2) hf
    refine ev_do i62_7 rfl ?_
    refine sh_aload (i' := 0) (n := 1) i62_8 (Or.inr ⟨rfl, by decide⟩) rfl ?_
    obtain ⟨v_3, ev_3, hf⟩ := x_bind hf
    refine sh_getI i62_9 f62_42 ev_3 ?_
    refine ev_icmp (t := 31) i62_12 rfl (fun c_4 => ?_) (fun c_4 => ?_)
    · replace hf := x_pos (show x1 < v_3 from c_4) hf
      exact j62_31_ok hd hf
    · replace hf := x_neg (show ¬ x1 < v_3 from c_4) hf
      refine ev_do i62_15 rfl ?_
      refine sh_aload (i' := 0) (n := 1) i62_16 (Or.inr ⟨rfl, by decide⟩) rfl ?_
      obtain ⟨v_5, ev_5, hf⟩ := x_bind hf
      refine sh_getI i62_17 f62_42 ev_5 ?_
      refine ev_icmp (t := 41) i62_20 rfl (fun c_6 => ?_) (fun c_6 => ?_)
      · replace hf := x_neg (show ¬ x1 = v_5 from c_6) hf
        exact j62_41_ok hd hf
      · replace hf := x_pos (show x1 = v_5 from Decidable.byContradiction (fun h9 => c_6 h9)) hf
        refine ev_do i62_23 rfl ?_
        refine sh_aload (i' := 0) (n := 1) i62_24 (Or.inr ⟨rfl, by decide⟩) rfl ?_
        obtain ⟨v_7, ev_7, hf⟩ := x_bind hf
        refine sh_getI i62_25 f62_38 ev_7 ?_
        refine ev_icmp (t := 41) i62_28 rfl (fun c_8 => ?_) (fun c_8 => ?_)
        · replace hf := x_pos (show v_7 ≤ x2 from c_8) hf
          exact j62_41_ok hd hf
        · replace hf := x_neg (show ¬ v_7 ≤ x2 from c_8) hf
          exact j62_31_ok hd hf
end
section
def j63_63  (o0 : Option Nat) (x1 : Int32) (h : xH) : Option xH := some h
theorem j63_63_ok {xs : List Int32} {d : Nat} (hd : 2 ≤ d) {o0 : Option Nat} {x1 : Int32} {h : xH} {r : xH} (hf : j63_63 o0 x1 h = some r) : xEv (xTa xs) d 63 (63, [xrv o0, .int x1], [], h) (none, r) := by
  unfold j63_63 at hf
  obtain rfl := Option.some.inj hf
  exact sh_vret i63_63 m63 rfl
def j63_57 (k2 : Option Nat → Int32 → xH → Option xH) (o0 : Option Nat) (x1 : Int32) (h : xH) : Option xH := k2 o0 (x1 + 1) h
theorem j63_57_ok {xs : List Int32} {d : Nat} (hd : 2 ≤ d) {k2 : Option Nat → Int32 → xH → Option xH} (hk2 : ∀ {o0 : Option Nat} {x1 : Int32} {h : xH} {r : xH}, k2 o0 x1 h = some r → xEv (xTa xs) d 63 (2, [xrv o0, .int x1], [], h) (none, r)) {o0 : Option Nat} {x1 : Int32} {h : xH} {r : xH} (hf : j63_57 k2 o0 x1 h = some r) : xEv (xTa xs) d 63 (57, [xrv o0, .int x1], [], h) (none, r) := by
  unfold j63_57 at hf
  refine sh_inc (i' := 1) i63_57 rfl (xokst_of (Nat.le_of_ble_eq_true rfl) (xrv_cat (o0))) rfl ?_
  refine sh_goto (t := 2) i63_60 rfl ?_
  exact hk2 hf
def l63_2  : Nat → Option Nat → Int32 → xH → Option xH
  | 0 => fun _ _ _ => none
  | n + 1 => fun o0 x1 h => (xgR h o0 7 2).bind fun a_1 => (xgI h a_1 9 1).bind fun v_2 => (if v_2 ≤ x1 then j63_63 o0 x1 h else (xgI h o0 7 5).bind fun v_4 => (if v_4 = 0 then (xgR h o0 7 2).bind fun a_6 => (xcv h a_6 9).bind fun _ => (fn96 a_6 x1 h).bind fun r_7 => (if r_7.1 = 10 then j63_57 (l63_2 n) o0 x1 r_7.2 else (xgR r_7.2 o0 7 2).bind fun a_9 => (xcv r_7.2 a_9 9).bind fun _ => (fn96 a_9 x1 r_7.2).bind fun r_10 => (fn135 r_10.1 32 126 r_10.2).bind fun r_11 => (if r_11.1 = 0 then (xcv r_11.2 o0 7).bind fun _ => (fn62 o0 x1 1 r_11.2).bind fun h_13 => j63_57 (l63_2 n) o0 x1 h_13 else j63_57 (l63_2 n) o0 x1 r_11.2)) else j63_63 o0 x1 h))
theorem l63_2_ok {xs : List Int32} {d : Nat} (hd : 2 ≤ d) : ∀ (n : Nat) {o0 : Option Nat} {x1 : Int32} {h : xH} {r : xH}, l63_2 n o0 x1 h = some r → xEv (xTa xs) d 63 (2, [xrv o0, .int x1], [], h) (none, r) := by
  intro n
  induction n with
  | zero => intros; rename_i hf; cases hf
  | succ n ih =>
    intro o0 x1 h r hf
    replace hf : ((xgR h o0 7 2).bind fun a_1 => (xgI h a_1 9 1).bind fun v_2 => (if v_2 ≤ x1 then j63_63 o0 x1 h else (xgI h o0 7 5).bind fun v_4 => (if v_4 = 0 then (xgR h o0 7 2).bind fun a_6 => (xcv h a_6 9).bind fun _ => (fn96 a_6 x1 h).bind fun r_7 => (if r_7.1 = 10 then j63_57 (l63_2 n) o0 x1 r_7.2 else (xgR r_7.2 o0 7 2).bind fun a_9 => (xcv r_7.2 a_9 9).bind fun _ => (fn96 a_9 x1 r_7.2).bind fun r_10 => (fn135 r_10.1 32 126 r_10.2).bind fun r_11 => (if r_11.1 = 0 then (xcv r_11.2 o0 7).bind fun _ => (fn62 o0 x1 1 r_11.2).bind fun h_13 => j63_57 (l63_2 n) o0 x1 h_13 else j63_57 (l63_2 n) o0 x1 r_11.2)) else j63_63 o0 x1 h))) = some r := hf
    refine ev_do i63_2 rfl ?_
    refine sh_aload (i' := 0) (n := 1) i63_3 (Or.inr ⟨rfl, by decide⟩) rfl ?_
    obtain ⟨a_1, ea_1, hf⟩ := x_bind hf
    refine sh_getR i63_4 f63_29 ea_1 ?_
    obtain ⟨v_2, ev_2, hf⟩ := x_bind hf
    refine sh_getI i63_7 f63_48 ev_2 ?_
    refine ev_icmp (t := 63) i63_10 rfl (fun c_3 => ?_) (fun c_3 => ?_)
    · replace hf := x_pos (show v_2 ≤ x1 from c_3) hf
      exact j63_63_ok hd hf
    · replace hf := x_neg (show ¬ v_2 ≤ x1 from c_3) hf
      refine sh_aload (i' := 0) (n := 1) i63_13 (Or.inr ⟨rfl, by decide⟩) rfl ?_
      obtain ⟨v_4, ev_4, hf⟩ := x_bind hf
      refine sh_getI i63_14 f63_38 ev_4 ?_
      refine ev_if (t := 63) i63_17 rfl (fun c_5 => ?_) (fun c_5 => ?_)
      · replace hf := x_neg (show ¬ v_4 = 0 from c_5) hf
        exact j63_63_ok hd hf
      · replace hf := x_pos (show v_4 = 0 from Decidable.byContradiction (fun h9 => c_5 h9)) hf
        refine sh_aload (i' := 0) (n := 1) i63_20 (Or.inr ⟨rfl, by decide⟩) rfl ?_
        obtain ⟨a_6, ea_6, hf⟩ := x_bind hf
        refine sh_getR i63_21 f63_29 ea_6 ?_
        refine ev_do i63_24 rfl ?_
        obtain ⟨_, eu_16, hf⟩ := x_bind hf
        obtain ⟨r_7, er_7, hf⟩ := x_bind hf
        refine sh_inv (as := [.int x1]) (z := (some (.int r_7.1), r_7.2)) i63_25 v63_73 (Or.inl ⟨by decide, rfl⟩) m96 rfl (Nat.le_of_ble_eq_true rfl) eu_16 (fn96_call (by omega) er_7) ?_
        refine ev_do i63_28 rfl ?_
        refine ev_icmp (t := 57) i63_30 rfl (fun c_8 => ?_) (fun c_8 => ?_)
        · replace hf := x_pos (show r_7.1 = 10 from c_8) hf
          exact j63_57_ok hd ih hf
        · replace hf := x_neg (show ¬ r_7.1 = 10 from c_8) hf
          refine sh_aload (i' := 0) (n := 1) i63_33 (Or.inr ⟨rfl, by decide⟩) rfl ?_
          obtain ⟨a_9, ea_9, hf⟩ := x_bind hf
          refine sh_getR i63_34 f63_29 ea_9 ?_
          refine ev_do i63_37 rfl ?_
          obtain ⟨_, eu_15, hf⟩ := x_bind hf
          obtain ⟨r_10, er_10, hf⟩ := x_bind hf
          refine sh_inv (as := [.int x1]) (z := (some (.int r_10.1), r_10.2)) i63_38 v63_73 (Or.inl ⟨by decide, rfl⟩) m96 rfl (Nat.le_of_ble_eq_true rfl) eu_15 (fn96_call (by omega) er_10) ?_
          refine ev_do i63_41 rfl ?_
          refine ev_do i63_43 rfl ?_
          obtain ⟨r_11, er_11, hf⟩ := x_bind hf
          refine ev_sta (as := [.int 126, .int 32, .int r_10.1]) (z := (some (.int r_11.1), r_11.2)) i63_45 v63_77 (Or.inr rfl) m135 rfl (Nat.le_of_ble_eq_true rfl) (fn135_call (by omega) er_11) ?_
          refine ev_if (t := 57) i63_48 rfl (fun c_12 => ?_) (fun c_12 => ?_)
          · replace hf := x_neg (show ¬ r_11.1 = 0 from c_12) hf
            exact j63_57_ok hd ih hf
          · replace hf := x_pos (show r_11.1 = 0 from Decidable.byContradiction (fun h9 => c_12 h9)) hf
            refine sh_aload (i' := 0) (n := 1) i63_51 (Or.inr ⟨rfl, by decide⟩) rfl ?_
            refine ev_do i63_52 rfl ?_
            refine ev_do i63_53 rfl ?_
            obtain ⟨_, eu_14, hf⟩ := x_bind hf
            obtain ⟨h_13, eh_13, hf⟩ := x_bind hf
            refine sh_inv (as := [.int 1, .int x1]) (z := (none, h_13)) i63_54 v63_81 (Or.inl ⟨by decide, rfl⟩) m62 rfl (Nat.le_of_ble_eq_true rfl) eu_14 (fn62_call (by omega) eh_13) ?_
            exact j63_57_ok hd ih hf
def fn63 (o0 : Option Nat) (h : xH) : Option xH := l63_2 xFuel o0 0 h
theorem fn63_call {xs : List Int32} {d : Nat} (hd : 3 ≤ d) {o0 : Option Nat} {h : xH} {r : xH} (hf : fn63 o0 h = some r) : xCall (xTa xs) d 63 [xrv o0] h (none, r) := by
  obtain ⟨d, rfl⟩ : ∃ d2, d = d2 + 1 := ⟨d - 1, by omega⟩
  replace hd : 2 ≤ d := by omega
  refine call_of2 (fl := [xrv o0]) (Ls := [xrv o0, .float 0]) m63 (by simp [xfl, xrv_cat, xc_i, xc_j, xc_a, xc_f]) (Nat.le_of_ble_eq_true rfl) rfl ?_
  unfold fn63 at hf
  refine ev_do i63_0 rfl ?_
  refine sh_istore (i' := 1) (n := 1) i63_1 (Or.inr ⟨rfl, by decide⟩) (xokst_of (Nat.le_of_ble_eq_true rfl) (xrv_cat (o0))) ?_
  exact l63_2_ok hd xFuel hf
end
section
def j64_72  (o0 : Option Nat) (x1 : Int32) (x2 : Int32) (x3 : Int32) (s0 : Int32) (h : xH) : Option (Int32 × xH) := some (s0, h)
theorem j64_72_ok {xs : List Int32} {d : Nat} (hd : 2 ≤ d) {o0 : Option Nat} {x1 : Int32} {x2 : Int32} {x3 : Int32} {s0 : Int32} {h : xH} {r : (Int32 × xH)} (hf : j64_72 o0 x1 x2 x3 s0 h = some r) : xEv (xTa xs) d 64 (72, [xrv o0, .int x1, .int x2, .int x3], [.int s0], h) (some (.int r.1), r.2) := by
  unfold j64_72 at hf
  obtain rfl := Option.some.inj hf
  exact sh_iret i64_72 m64 rfl rfl
def j64_62  (o0 : Option Nat) (x1 : Int32) (x2 : Int32) (s0 : Int32) (h : xH) : Option (Int32 × xH) := (if s0 = 0 then j64_72 o0 x1 x2 s0 3 h else j64_72 o0 x1 x2 s0 2 h)
theorem j64_62_ok {xs : List Int32} {d : Nat} (hd : 2 ≤ d) {u3 : Value} {o0 : Option Nat} {x1 : Int32} {x2 : Int32} {s0 : Int32} {h : xH} {r : (Int32 × xH)} (hu3 : u3.category = 1) (hf : j64_62 o0 x1 x2 s0 h = some r) : xEv (xTa xs) d 64 (62, [xrv o0, .int x1, .int x2, u3], [.int s0], h) (some (.int r.1), r.2) := by
  unfold j64_62 at hf
  refine sh_istore (i' := 3) (n := 1) i64_62 (Or.inr ⟨rfl, by decide⟩) (xokst_of (Nat.le_of_ble_eq_true rfl) rfl) ?_
  refine ev_do i64_63 rfl ?_
  refine ev_if (t := 71) i64_64 rfl (fun c_1 => ?_) (fun c_1 => ?_)
  · replace hf := x_pos (show s0 = 0 from c_1) hf
    refine ev_do i64_71 rfl ?_
    exact j64_72_ok hd hf
  · replace hf := x_neg (show ¬ s0 = 0 from c_1) hf
    refine ev_do i64_67 rfl ?_
    refine sh_goto (t := 72) i64_68 rfl ?_
    exact j64_72_ok hd hf
def j64_61  (o0 : Option Nat) (x1 : Int32) (x2 : Int32) (h : xH) : Option (Int32 × xH) := j64_62 o0 x1 x2 0 h
theorem j64_61_ok {xs : List Int32} {d : Nat} (hd : 2 ≤ d) {u3 : Value} {o0 : Option Nat} {x1 : Int32} {x2 : Int32} {h : xH} {r : (Int32 × xH)} (hu3 : u3.category = 1) (hf : j64_61 o0 x1 x2 h = some r) : xEv (xTa xs) d 64 (61, [xrv o0, .int x1, .int x2, u3], [], h) (some (.int r.1), r.2) := by
  unfold j64_61 at hf
  refine ev_do i64_61 rfl ?_
  exact j64_62_ok hd hu3 hf
def j64_57  (o0 : Option Nat) (x1 : Int32) (x2 : Int32) (h : xH) : Option (Int32 × xH) := j64_62 o0 x1 x2 1 h
theorem j64_57_ok {xs : List Int32} {d : Nat} (hd : 2 ≤ d) {u3 : Value} {o0 : Option Nat} {x1 : Int32} {x2 : Int32} {h : xH} {r : (Int32 × xH)} (hu3 : u3.category = 1) (hf : j64_57 o0 x1 x2 h = some r) : xEv (xTa xs) d 64 (57, [xrv o0, .int x1, .int x2, u3], [], h) (some (.int r.1), r.2) := by
  unfold j64_57 at hf
  refine ev_do i64_57 rfl ?_
  refine sh_goto (t := 62) i64_58 rfl ?_
  exact j64_62_ok hd hu3 hf
def fn64 (o0 : Option Nat) (x1 : Int32) (x2 : Int32) (h : xH) : Option (Int32 × xH) := (if x1 < x2 then (xgR h o0 7 2).bind fun a_2 => (xcv h a_2 9).bind fun _ => (fn96 a_2 x1 h).bind fun r_3 => (if r_3.1 = 64 then some (1, r_3.2) else (xgR r_3.2 o0 7 2).bind fun a_5 => (xcv r_3.2 a_5 9).bind fun _ => (fn96 a_5 x1 r_3.2).bind fun r_6 => (if r_6.1 = 45 then (if (x1 + 1) = x2 then j64_57 o0 x1 x2 r_6.2 else (xgR r_6.2 o0 7 2).bind fun a_9 => (xcv r_6.2 a_9 9).bind fun _ => (fn96 a_9 (x1 + 1) r_6.2).bind fun r_10 => (if r_10.1 = 32 then j64_57 o0 x1 x2 r_10.2 else j64_61 o0 x1 x2 r_10.2)) else j64_61 o0 x1 x2 r_6.2)) else some (0, h))
theorem fn64_call {xs : List Int32} {d : Nat} (hd : 3 ≤ d) {o0 : Option Nat} {x1 : Int32} {x2 : Int32} {h : xH} {r : (Int32 × xH)} (hf : fn64 o0 x1 x2 h = some r) : xCall (xTa xs) d 64 [xrv o0, .int x1, .int x2] h (some (.int r.1), r.2) := by
  obtain ⟨d, rfl⟩ : ∃ d2, d = d2 + 1 := ⟨d - 1, by omega⟩
  replace hd : 2 ≤ d := by omega
  refine call_of2 (fl := [xrv o0, .int x1, .int x2]) (Ls := [xrv o0, .int x1, .int x2, .float 0]) m64 (by simp [xfl, xrv_cat, xc_i, xc_j, xc_a, xc_f]) (Nat.le_of_ble_eq_true rfl) rfl ?_
  unfold fn64 at hf
  refine ev_do i64_0 rfl ?_
  refine ev_do i64_1 rfl ?_
  refine ev_icmp (t := 7) i64_2 rfl (fun c_1 => ?_) (fun c_1 => ?_)
  · replace hf := x_pos (show x1 < x2 from c_1) hf
    refine sh_aload (i' := 0) (n := 1) i64_7 (Or.inr ⟨rfl, by decide⟩) rfl ?_
    obtain ⟨a_2, ea_2, hf⟩ := x_bind hf
    refine sh_getR i64_8 f64_29 ea_2 ?_
    refine ev_do i64_11 rfl ?_
    obtain ⟨_, eu_14, hf⟩ := x_bind hf
    obtain ⟨r_3, er_3, hf⟩ := x_bind hf
    refine sh_inv (as := [.int x1]) (z := (some (.int r_3.1), r_3.2)) i64_12 v64_73 (Or.inl ⟨by decide, rfl⟩) m96 rfl (Nat.le_of_ble_eq_true rfl) eu_14 (fn96_call (by omega) er_3) ?_
    refine ev_do i64_15 rfl ?_
    refine ev_icmp (t := 22) i64_17 rfl (fun c_4 => ?_) (fun c_4 => ?_)
    · replace hf := x_neg (show ¬ r_3.1 = 64 from c_4) hf
      refine sh_aload (i' := 0) (n := 1) i64_22 (Or.inr ⟨rfl, by decide⟩) rfl ?_
      obtain ⟨a_5, ea_5, hf⟩ := x_bind hf
      refine sh_getR i64_23 f64_29 ea_5 ?_
      refine ev_do i64_26 rfl ?_
      obtain ⟨_, eu_13, hf⟩ := x_bind hf
      obtain ⟨r_6, er_6, hf⟩ := x_bind hf
      refine sh_inv (as := [.int x1]) (z := (some (.int r_6.1), r_6.2)) i64_27 v64_73 (Or.inl ⟨by decide, rfl⟩) m96 rfl (Nat.le_of_ble_eq_true rfl) eu_13 (fn96_call (by omega) er_6) ?_
      refine ev_do i64_30 rfl ?_
      refine ev_icmp (t := 61) i64_32 rfl (fun c_7 => ?_) (fun c_7 => ?_)
      · replace hf := x_neg (show ¬ r_6.1 = 45 from c_7) hf
        exact j64_61_ok hd rfl hf
      · replace hf := x_pos (show r_6.1 = 45 from Decidable.byContradiction (fun h9 => c_7 h9)) hf
        refine ev_do i64_35 rfl ?_
        refine ev_do i64_36 rfl ?_
        refine ev_do i64_37 rfl ?_
        refine ev_do i64_38 rfl ?_
        refine ev_icmp (t := 57) i64_39 rfl (fun c_8 => ?_) (fun c_8 => ?_)
        · replace hf := x_pos (show (x1 + 1) = x2 from c_8) hf
          exact j64_57_ok hd rfl hf
        · replace hf := x_neg (show ¬ (x1 + 1) = x2 from c_8) hf
          refine sh_aload (i' := 0) (n := 1) i64_42 (Or.inr ⟨rfl, by decide⟩) rfl ?_
          obtain ⟨a_9, ea_9, hf⟩ := x_bind hf
          refine sh_getR i64_43 f64_29 ea_9 ?_
          refine ev_do i64_46 rfl ?_
          refine ev_do i64_47 rfl ?_
          refine ev_do i64_48 rfl ?_
          obtain ⟨_, eu_12, hf⟩ := x_bind hf
          obtain ⟨r_10, er_10, hf⟩ := x_bind hf
          refine sh_inv (as := [.int (x1 + 1)]) (z := (some (.int r_10.1), r_10.2)) i64_49 v64_73 (Or.inl ⟨by decide, rfl⟩) m96 rfl (Nat.le_of_ble_eq_true rfl) eu_12 (fn96_call (by omega) er_10) ?_
          refine ev_do i64_52 rfl ?_
          refine ev_icmp (t := 61) i64_54 rfl (fun c_11 => ?_) (fun c_11 => ?_)
          · replace hf := x_neg (show ¬ r_10.1 = 32 from c_11) hf
            exact j64_61_ok hd rfl hf
          · replace hf := x_pos (show r_10.1 = 32 from Decidable.byContradiction (fun h9 => c_11 h9)) hf
            exact j64_57_ok hd rfl hf
    · replace hf := x_pos (show r_3.1 = 64 from Decidable.byContradiction (fun h9 => c_4 h9)) hf
      refine ev_do i64_20 rfl ?_
      obtain rfl := Option.some.inj hf
      exact sh_iret i64_21 m64 rfl rfl
  · replace hf := x_neg (show ¬ x1 < x2 from c_1) hf
    refine ev_do i64_5 rfl ?_
    obtain rfl := Option.some.inj hf
    exact sh_iret i64_6 m64 rfl rfl
end
section
def j65_25  (o0 : Option Nat) (s0 : Int32) (h : xH) : Option (Int32 × xH) := (if s0 &&& 1 = s0 then some (s0, h) else none)
theorem j65_25_ok {xs : List Int32} {d : Nat} (hd : 2 ≤ d) {o0 : Option Nat} {s0 : Int32} {h : xH} {r : (Int32 × xH)} (hf : j65_25 o0 s0 h = some r) : xEv (xTa xs) d 65 (25, [xrv o0], [.int s0], h) (some (.int r.1), r.2) := by
  unfold j65_25 at hf
  by_cases c_1 : s0 &&& 1 = s0
  · replace hf := x_pos c_1 hf
    obtain rfl := Option.some.inj hf
    exact sh_iret i65_25 m65 rfl (congrArg Value.int c_1)
  · replace hf := x_neg c_1 hf
    cases hf
def j65_24  (o0 : Option Nat) (h : xH) : Option (Int32 × xH) := j65_25 o0 0 h
theorem j65_24_ok {xs : List Int32} {d : Nat} (hd : 2 ≤ d) {o0 : Option Nat} {h : xH} {r : (Int32 × xH)} (hf : j65_24 o0 h = some r) : xEv (xTa xs) d 65 (24, [xrv o0], [], h) (some (.int r.1), r.2) := by
  unfold j65_24 at hf
  refine ev_do i65_24 rfl ?_
  exact j65_25_ok hd hf
def fn65 (o0 : Option Nat) (h : xH) : Option (Int32 × xH) := (xgR h o0 7 3).bind fun a_1 => (if a_1 = none then j65_24 o0 h else (xgR h o0 7 3).bind fun a_3 => (xgI h a_3 0 1).bind fun v_4 => (fn138 v_4 h).bind fun r_5 => (if r_5.1 = 0 then j65_24 o0 r_5.2 else j65_25 o0 1 r_5.2))
theorem fn65_call {xs : List Int32} {d : Nat} (hd : 3 ≤ d) {o0 : Option Nat} {h : xH} {r : (Int32 × xH)} (hf : fn65 o0 h = some r) : xCall (xTa xs) d 65 [xrv o0] h (some (.int r.1), r.2) := by
  obtain ⟨d, rfl⟩ : ∃ d2, d = d2 + 1 := ⟨d - 1, by omega⟩
  replace hd : 2 ≤ d := by omega
  refine call_of2 (fl := [xrv o0]) (Ls := [xrv o0]) m65 (by simp [xfl, xrv_cat, xc_i, xc_j, xc_a, xc_f]) (Nat.le_of_ble_eq_true rfl) rfl ?_
  unfold fn65 at hf
  refine sh_aload (i' := 0) (n := 1) i65_0 (Or.inr ⟨rfl, by decide⟩) rfl ?_
  obtain ⟨a_1, ea_1, hf⟩ := x_bind hf
  refine sh_getR i65_1 f65_30 ea_1 ?_
  refine sh_null (t := 24) i65_4 rfl (fun c_2 => ?_) (fun c_2 => ?_)
  · replace hf := x_pos c_2 hf
    exact j65_24_ok hd hf
  · replace hf := x_neg c_2 hf
    refine sh_aload (i' := 0) (n := 1) i65_7 (Or.inr ⟨rfl, by decide⟩) rfl ?_
    obtain ⟨a_3, ea_3, hf⟩ := x_bind hf
    refine sh_getR i65_8 f65_30 ea_3 ?_
    obtain ⟨v_4, ev_4, hf⟩ := x_bind hf
    refine sh_getI i65_11 f65_84 ev_4 ?_
    obtain ⟨r_5, er_5, hf⟩ := x_bind hf
    refine ev_sta (as := [.int v_4]) (z := (some (.int r_5.1), r_5.2)) i65_14 v65_89 (Or.inr rfl) m138 rfl (Nat.le_of_ble_eq_true rfl) (fn138_call (by omega) er_5) ?_
    refine ev_if (t := 24) i65_17 rfl (fun c_6 => ?_) (fun c_6 => ?_)
    · replace hf := x_pos (show r_5.1 = 0 from c_6) hf
      exact j65_24_ok hd hf
    · replace hf := x_neg (show ¬ r_5.1 = 0 from c_6) hf
      refine ev_do i65_20 rfl ?_
      refine sh_goto (t := 25) i65_21 rfl ?_
      exact j65_25_ok hd hf
end
section
def j66_38  (o0 : Option Nat) (x1 : Int32) (x2 : Int32) (h : xH) : Option xH := some h
theorem j66_38_ok {xs : List Int32} {d : Nat} (hd : 2 ≤ d) {o0 : Option Nat} {x1 : Int32} {x2 : Int32} {h : xH} {r : xH} (hf : j66_38 o0 x1 x2 h = some r) : xEv (xTa xs) d 66 (38, [xrv o0, .int x1, .int x2], [], h) (none, r) := by
  unfold j66_38 at hf
  obtain rfl := Option.some.inj hf
  exact sh_vret i66_38 m66 rfl
def j66_32  (o0 : Option Nat) (x1 : Int32) (x2 : Int32) (h : xH) : Option xH := (xcv h o0 7).bind fun _ => (fn62 o0 x2 4 h).bind fun h_1 => j66_38 o0 x1 x2 h_1
theorem j66_32_ok {xs : List Int32} {d : Nat} (hd : 2 ≤ d) {o0 : Option Nat} {x1 : Int32} {x2 : Int32} {h : xH} {r : xH} (hf : j66_32 o0 x1 x2 h = some r) : xEv (xTa xs) d 66 (32, [xrv o0, .int x1, .int x2], [], h) (none, r) := by
  unfold j66_32 at hf
  refine sh_aload (i' := 0) (n := 1) i66_32 (Or.inr ⟨rfl, by decide⟩) rfl ?_
  refine ev_do i66_33 rfl ?_
  refine ev_do i66_34 rfl ?_
  obtain ⟨_, eu_2, hf⟩ := x_bind hf
  obtain ⟨h_1, eh_1, hf⟩ := x_bind hf
  refine sh_inv (as := [.int 4, .int x2]) (z := (none, h_1)) i66_35 v66_81 (Or.inl ⟨by decide, rfl⟩) m62 rfl (Nat.le_of_ble_eq_true rfl) eu_2 (fn62_call (by omega) eh_1) ?_
  exact j66_38_ok hd hf
def fn66 (o0 : Option Nat) (x1 : Int32) (x2 : Int32) (h : xH) : Option xH := (xgR h o0 7 1).bind fun a_1 => (xcv h a_1 1).bind fun _ => (fn7 a_1 x1 x2 h).bind fun r_2 => (xpF r_2.2 o0 7 3 (.object "DocFormat$Block") (xrv r_2.1)).bind fun h_3 => (xgR h_3 o0 7 3).bind fun a_4 => (if a_4 = none then j66_32 o0 x1 x2 h_3 else (xgR h_3 o0 7 1).bind fun a_6 => (xgI h_3 a_6 1 3).bind fun v_7 => (if v_7 ≤ 24 then j66_38 o0 x1 x2 h_3 else j66_32 o0 x1 x2 h_3))
theorem fn66_call {xs : List Int32} {d : Nat} (hd : 3 ≤ d) {o0 : Option Nat} {x1 : Int32} {x2 : Int32} {h : xH} {r : xH} (hf : fn66 o0 x1 x2 h = some r) : xCall (xTa xs) d 66 [xrv o0, .int x1, .int x2] h (none, r) := by
  obtain ⟨d, rfl⟩ : ∃ d2, d = d2 + 1 := ⟨d - 1, by omega⟩
  replace hd : 2 ≤ d := by omega
  refine call_of2 (fl := [xrv o0, .int x1, .int x2]) (Ls := [xrv o0, .int x1, .int x2]) m66 (by simp [xfl, xrv_cat, xc_i, xc_j, xc_a, xc_f]) (Nat.le_of_ble_eq_true rfl) rfl ?_
  unfold fn66 at hf
  refine sh_aload (i' := 0) (n := 1) i66_0 (Or.inr ⟨rfl, by decide⟩) rfl ?_
  refine sh_aload (i' := 0) (n := 1) i66_1 (Or.inr ⟨rfl, by decide⟩) rfl ?_
  obtain ⟨a_1, ea_1, hf⟩ := x_bind hf
  refine sh_getR i66_2 f66_20 ea_1 ?_
  refine ev_do i66_5 rfl ?_
  refine ev_do i66_6 rfl ?_
  obtain ⟨_, eu_9, hf⟩ := x_bind hf
  obtain ⟨r_2, er_2, hf⟩ := x_bind hf
  refine sh_inv (as := [.int x2, .int x1]) (z := (some (xrv r_2.1), r_2.2)) i66_7 v66_93 (Or.inl ⟨by decide, rfl⟩) m7 rfl (by simp [xcat, xrv_cat, xc_i, xc_j, xc_a, xc_f]) eu_9 (fn7_call (by omega) er_2) ?_
  obtain ⟨h_3, eh_3, hf⟩ := x_bind hf
  refine sh_put i66_10 f66_30 (by decide) rfl eh_3 ?_
  refine sh_aload (i' := 0) (n := 1) i66_13 (Or.inr ⟨rfl, by decide⟩) rfl ?_
  obtain ⟨a_4, ea_4, hf⟩ := x_bind hf
  refine sh_getR i66_14 f66_30 ea_4 ?_
  refine sh_null (t := 32) i66_17 rfl (fun c_5 => ?_) (fun c_5 => ?_)
  · replace hf := x_pos c_5 hf
    exact j66_32_ok hd hf
  · replace hf := x_neg c_5 hf
    refine sh_aload (i' := 0) (n := 1) i66_20 (Or.inr ⟨rfl, by decide⟩) rfl ?_
    obtain ⟨a_6, ea_6, hf⟩ := x_bind hf
    refine sh_getR i66_21 f66_20 ea_6 ?_
    obtain ⟨v_7, ev_7, hf⟩ := x_bind hf
    refine sh_getI i66_24 f66_97 ev_7 ?_
    refine ev_do i66_27 rfl ?_
    refine ev_icmp (t := 38) i66_29 rfl (fun c_8 => ?_) (fun c_8 => ?_)
    · replace hf := x_pos (show v_7 ≤ 24 from c_8) hf
      exact j66_38_ok hd hf
    · replace hf := x_neg (show ¬ v_7 ≤ 24 from c_8) hf
      exact j66_32_ok hd hf
end
section
def j76_23  (x0 : Int32) (s0 : Int32) (h : xH) : Option (Int32 × xH) := (if s0 &&& 1 = s0 then some (s0, h) else none)
theorem j76_23_ok {xs : List Int32} {d : Nat} (hd : 1 ≤ d) {x0 : Int32} {s0 : Int32} {h : xH} {r : (Int32 × xH)} (hf : j76_23 x0 s0 h = some r) : xEv (xTa xs) d 76 (23, [.int x0], [.int s0], h) (some (.int r.1), r.2) := by
  unfold j76_23 at hf
  by_cases c_1 : s0 &&& 1 = s0
  · replace hf := x_pos c_1 hf
    obtain rfl := Option.some.inj hf
    exact sh_iret i76_23 m76 rfl (congrArg Value.int c_1)
  · replace hf := x_neg c_1 hf
    cases hf
def j76_18  (x0 : Int32) (h : xH) : Option (Int32 × xH) := j76_23 x0 1 h
theorem j76_18_ok {xs : List Int32} {d : Nat} (hd : 1 ≤ d) {x0 : Int32} {h : xH} {r : (Int32 × xH)} (hf : j76_18 x0 h = some r) : xEv (xTa xs) d 76 (18, [.int x0], [], h) (some (.int r.1), r.2) := by
  unfold j76_18 at hf
  refine ev_do i76_18 rfl ?_
  refine sh_goto (t := 23) i76_19 rfl ?_
  exact j76_23_ok hd hf
def fn76 (x0 : Int32) (h : xH) : Option (Int32 × xH) := (if x0 = 32 then j76_18 x0 h else (if x0 = 123 then j76_18 x0 h else (if x0 = 125 then j76_18 x0 h else j76_23 x0 0 h)))
theorem fn76_call {xs : List Int32} {d : Nat} (hd : 2 ≤ d) {x0 : Int32} {h : xH} {r : (Int32 × xH)} (hf : fn76 x0 h = some r) : xCall (xTa xs) d 76 [.int x0] h (some (.int r.1), r.2) := by
  obtain ⟨d, rfl⟩ : ∃ d2, d = d2 + 1 := ⟨d - 1, by omega⟩
  replace hd : 1 ≤ d := by omega
  refine call_of2 (fl := [.int x0]) (Ls := [.int x0]) m76 (by simp [xfl, xrv_cat, xc_i, xc_j, xc_a, xc_f]) (Nat.le_of_ble_eq_true rfl) rfl ?_
  unfold fn76 at hf
  refine ev_do i76_0 rfl ?_
  refine ev_do i76_1 rfl ?_
  refine ev_icmp (t := 18) i76_3 rfl (fun c_1 => ?_) (fun c_1 => ?_)
  · replace hf := x_pos (show x0 = 32 from c_1) hf
    exact j76_18_ok hd hf
  · replace hf := x_neg (show ¬ x0 = 32 from c_1) hf
    refine ev_do i76_6 rfl ?_
    refine ev_do i76_7 rfl ?_
    refine ev_icmp (t := 18) i76_9 rfl (fun c_2 => ?_) (fun c_2 => ?_)
    · replace hf := x_pos (show x0 = 123 from c_2) hf
      exact j76_18_ok hd hf
    · replace hf := x_neg (show ¬ x0 = 123 from c_2) hf
      refine ev_do i76_12 rfl ?_
      refine ev_do i76_13 rfl ?_
      refine ev_icmp (t := 22) i76_15 rfl (fun c_3 => ?_) (fun c_3 => ?_)
      · replace hf := x_neg (show ¬ x0 = 125 from c_3) hf
        refine ev_do i76_22 rfl ?_
        exact j76_23_ok hd hf
      · replace hf := x_pos (show x0 = 125 from Decidable.byContradiction (fun h9 => c_3 h9)) hf
        exact j76_18_ok hd hf
end
section
def j77_34  (o0 : Option Nat) (x1 : Int32) (x2 : Int32) (x3 : Int32) (o4 : Option Nat) (h : xH) : Option (Option Nat × xH) := some (o4, h)
theorem j77_34_ok {xs : List Int32} {d : Nat} (hd : 2 ≤ d) {o0 : Option Nat} {x1 : Int32} {x2 : Int32} {x3 : Int32} {o4 : Option Nat} {h : xH} {r : (Option Nat × xH)} (hf : j77_34 o0 x1 x2 x3 o4 h = some r) : xEv (xTa xs) d 77 (34, [xrv o0, .int x1, .int x2, .int x3, xrv o4], [], h) (some (xrv r.1), r.2) := by
  unfold j77_34 at hf
  refine sh_aload (i' := 4) (n := 2) i77_34 (Or.inl rfl) rfl ?_
  obtain rfl := Option.some.inj hf
  exact sh_aret i77_36 m77 rfl
def fn77 (o0 : Option Nat) (x1 : Int32) (x2 : Int32) (x3 : Int32) (h : xH) : Option (Option Nat × xH) := (if x3 = 0 then (xcv h o0 7).bind fun _ => (fn62 o0 x1 2 h).bind fun h_2 => some (none, h_2) else (xgR h o0 7 1).bind fun a_4 => (xcv h a_4 1).bind fun _ => (fn8 a_4 x1 x2 h).bind fun r_5 => (if r_5.1 = none then (xcv r_5.2 o0 7).bind fun _ => (fn62 o0 x1 4 r_5.2).bind fun h_7 => j77_34 o0 x1 x2 x3 r_5.1 h_7 else j77_34 o0 x1 x2 x3 r_5.1 r_5.2))
theorem fn77_call {xs : List Int32} {d : Nat} (hd : 3 ≤ d) {o0 : Option Nat} {x1 : Int32} {x2 : Int32} {x3 : Int32} {h : xH} {r : (Option Nat × xH)} (hf : fn77 o0 x1 x2 x3 h = some r) : xCall (xTa xs) d 77 [xrv o0, .int x1, .int x2, .int x3] h (some (xrv r.1), r.2) := by
  obtain ⟨d, rfl⟩ : ∃ d2, d = d2 + 1 := ⟨d - 1, by omega⟩
  replace hd : 2 ≤ d := by omega
  refine call_of2 (fl := [xrv o0, .int x1, .int x2, .int x3]) (Ls := [xrv o0, .int x1, .int x2, .int x3, .float 0]) m77 (by simp [xfl, xrv_cat, xc_i, xc_j, xc_a, xc_f]) (Nat.le_of_ble_eq_true rfl) rfl ?_
  unfold fn77 at hf
  refine ev_do i77_0 rfl ?_
  refine ev_if (t := 12) i77_1 rfl (fun c_1 => ?_) (fun c_1 => ?_)
  · replace hf := x_neg (show ¬ x3 = 0 from c_1) hf
    refine sh_aload (i' := 0) (n := 1) i77_12 (Or.inr ⟨rfl, by decide⟩) rfl ?_
    obtain ⟨a_4, ea_4, hf⟩ := x_bind hf
    refine sh_getR i77_13 f77_20 ea_4 ?_
    refine ev_do i77_16 rfl ?_
    refine ev_do i77_17 rfl ?_
    obtain ⟨_, eu_9, hf⟩ := x_bind hf
    obtain ⟨r_5, er_5, hf⟩ := x_bind hf
    refine sh_inv (as := [.int x2, .int x1]) (z := (some (xrv r_5.1), r_5.2)) i77_18 v77_226 (Or.inl ⟨by decide, rfl⟩) m8 rfl (Nat.le_of_ble_eq_true rfl) eu_9 (fn8_call (by omega) er_5) ?_
    refine sh_astore (i' := 4) (n := 2) i77_21 (Or.inl rfl) (xokst_of (Nat.le_of_ble_eq_true rfl) rfl) ?_
    refine sh_aload (i' := 4) (n := 2) i77_23 (Or.inl rfl) rfl ?_
    refine sh_nnul (t := 34) i77_25 rfl (fun c_6 => ?_) (fun c_6 => ?_)
    · replace hf := x_pos c_6 hf
      refine sh_aload (i' := 0) (n := 1) i77_28 (Or.inr ⟨rfl, by decide⟩) rfl ?_
      refine ev_do i77_29 rfl ?_
      refine ev_do i77_30 rfl ?_
      obtain ⟨_, eu_8, hf⟩ := x_bind hf
      obtain ⟨h_7, eh_7, hf⟩ := x_bind hf
      refine sh_inv (as := [.int 4, .int x1]) (z := (none, h_7)) i77_31 v77_81 (Or.inl ⟨by decide, rfl⟩) m62 rfl (Nat.le_of_ble_eq_true rfl) eu_8 (fn62_call (by omega) eh_7) ?_
      exact j77_34_ok hd hf
    · replace hf := x_neg c_6 hf
      exact j77_34_ok hd hf
  · replace hf := x_pos (show x3 = 0 from Decidable.byContradiction (fun h9 => c_1 h9)) hf
    refine sh_aload (i' := 0) (n := 1) i77_4 (Or.inr ⟨rfl, by decide⟩) rfl ?_
    refine ev_do i77_5 rfl ?_
    refine ev_do i77_6 rfl ?_
    obtain ⟨_, eu_3, hf⟩ := x_bind hf
    obtain ⟨h_2, eh_2, hf⟩ := x_bind hf
    refine sh_inv (as := [.int 2, .int x1]) (z := (none, h_2)) i77_7 v77_81 (Or.inl ⟨by decide, rfl⟩) m62 rfl (Nat.le_of_ble_eq_true rfl) eu_3 (fn62_call (by omega) eh_2) ?_
    refine sh_cnull i77_10 ?_
    obtain rfl := Option.some.inj hf
    exact sh_aret i77_11 m77 rfl
end
section
def j75_40  (o0 : Option Nat) (x1 : Int32) (x2 : Int32) (x3 : Int32) (s0 : Option Nat) (s1 : Int32) (s2 : Int32) (s3 : Int32) (h : xH) : Option (Option Nat × xH) := (xcv h s0 7).bind fun _ => (fn77 s0 s1 s2 s3 h).bind fun r_1 => some (r_1.1, r_1.2)
theorem j75_40_ok {xs : List Int32} {d : Nat} (hd : 3 ≤ d) {o0 : Option Nat} {x1 : Int32} {x2 : Int32} {x3 : Int32} {s0 : Option Nat} {s1 : Int32} {s2 : Int32} {s3 : Int32} {h : xH} {r : (Option Nat × xH)} (hf : j75_40 o0 x1 x2 x3 s0 s1 s2 s3 h = some r) : xEv (xTa xs) d 75 (40, [xrv o0, .int x1, .int x2, .int x3], [.int s3, .int s2, .int s1, xrv s0], h) (some (xrv r.1), r.2) := by
  unfold j75_40 at hf
  obtain ⟨_, eu_2, hf⟩ := x_bind hf
  obtain ⟨r_1, er_1, hf⟩ := x_bind hf
  refine sh_inv (as := [.int s3, .int s2, .int s1]) (z := (some (xrv r_1.1), r_1.2)) i75_40 v75_222 (Or.inl ⟨by decide, rfl⟩) m77 rfl (Nat.le_of_ble_eq_true rfl) eu_2 (fn77_call (by omega) er_1) ?_
  obtain rfl := Option.some.inj hf
  exact sh_aret i75_43 m75 rfl
def j75_27  (o0 : Option Nat) (x1 : Int32) (x2 : Int32) (x3 : Int32) (h : xH) : Option (Option Nat × xH) := (if x3 ≤ x1 then j75_40 o0 x1 x2 x3 o0 x1 x3 0 h else j75_40 o0 x1 x2 x3 o0 x1 x3 1 h)
theorem j75_27_ok {xs : List Int32} {d : Nat} (hd : 3 ≤ d) {o0 : Option Nat} {x1 : Int32} {x2 : Int32} {x3 : Int32} {h : xH} {r : (Option Nat × xH)} (hf : j75_27 o0 x1 x2 x3 h = some r) : xEv (xTa xs) d 75 (27, [xrv o0, .int x1, .int x2, .int x3], [], h) (some (xrv r.1), r.2) := by
  unfold j75_27 at hf
  refine sh_aload (i' := 0) (n := 1) i75_27 (Or.inr ⟨rfl, by decide⟩) rfl ?_
  refine ev_do i75_28 rfl ?_
  refine ev_do i75_29 rfl ?_
  refine ev_do i75_30 rfl ?_
  refine ev_do i75_31 rfl ?_
  refine ev_icmp (t := 39) i75_32 rfl (fun c_1 => ?_) (fun c_1 => ?_)
  · replace hf := x_pos (show x3 ≤ x1 from c_1) hf
    refine ev_do i75_39 rfl ?_
    exact j75_40_ok hd hf
  · replace hf := x_neg (show ¬ x3 ≤ x1 from c_1) hf
    refine ev_do i75_35 rfl ?_
    refine sh_goto (t := 40) i75_36 rfl ?_
    exact j75_40_ok hd hf
def l75_2  : Nat → Option Nat → Int32 → Int32 → Int32 → xH → Option (Option Nat × xH)
  | 0 => fun _ _ _ _ _ => none
  | n + 1 => fun o0 x1 x2 x3 h => (if x2 ≤ x3 then j75_27 o0 x1 x2 x3 h else (xgR h o0 7 2).bind fun a_2 => (xcv h a_2 9).bind fun _ => (fn96 a_2 x3 h).bind fun r_3 => (fn76 r_3.1 r_3.2).bind fun r_4 => (if r_4.1 = 0 then l75_2 n o0 x1 x2 (x3 + 1) r_4.2 else j75_27 o0 x1 x2 x3 r_4.2))
theorem l75_2_ok {xs : List Int32} {d : Nat} (hd : 3 ≤ d) : ∀ (n : Nat) {o0 : Option Nat} {x1 : Int32} {x2 : Int32} {x3 : Int32} {h : xH} {r : (Option Nat × xH)}, l75_2 n o0 x1 x2 x3 h = some r → xEv (xTa xs) d 75 (2, [xrv o0, .int x1, .int x2, .int x3], [], h) (some (xrv r.1), r.2) := by
  intro n
  induction n with
  | zero => intros; rename_i hf; cases hf
  | succ n ih =>
    intro o0 x1 x2 x3 h r hf
    replace hf : ((if x2 ≤ x3 then j75_27 o0 x1 x2 x3 h else (xgR h o0 7 2).bind fun a_2 => (xcv h a_2 9).bind fun _ => (fn96 a_2 x3 h).bind fun r_3 => (fn76 r_3.1 r_3.2).bind fun r_4 => (if r_4.1 = 0 then l75_2 n o0 x1 x2 (x3 + 1) r_4.2 else j75_27 o0 x1 x2 x3 r_4.2))) = some r := hf
    refine ev_do i75_2 rfl ?_
    refine ev_do i75_3 rfl ?_
    refine ev_icmp (t := 27) i75_4 rfl (fun c_1 => ?_) (fun c_1 => ?_)
    · replace hf := x_pos (show x2 ≤ x3 from c_1) hf
      exact j75_27_ok hd hf
    · replace hf := x_neg (show ¬ x2 ≤ x3 from c_1) hf
      refine sh_aload (i' := 0) (n := 1) i75_7 (Or.inr ⟨rfl, by decide⟩) rfl ?_
      obtain ⟨a_2, ea_2, hf⟩ := x_bind hf
      refine sh_getR i75_8 f75_29 ea_2 ?_
      refine ev_do i75_11 rfl ?_
      obtain ⟨_, eu_6, hf⟩ := x_bind hf
      obtain ⟨r_3, er_3, hf⟩ := x_bind hf
      refine sh_inv (as := [.int x3]) (z := (some (.int r_3.1), r_3.2)) i75_12 v75_73 (Or.inl ⟨by decide, rfl⟩) m96 rfl (Nat.le_of_ble_eq_true rfl) eu_6 (fn96_call (by omega) er_3) ?_
      obtain ⟨r_4, er_4, hf⟩ := x_bind hf
      refine ev_sta (as := [.int r_3.1]) (z := (some (.int r_4.1), r_4.2)) i75_15 v75_219 (Or.inl rfl) m76 rfl (Nat.le_of_ble_eq_true rfl) (fn76_call (by omega) er_4) ?_
      refine ev_if (t := 27) i75_18 rfl (fun c_5 => ?_) (fun c_5 => ?_)
      · replace hf := x_neg (show ¬ r_4.1 = 0 from c_5) hf
        exact j75_27_ok hd hf
      · replace hf := x_pos (show r_4.1 = 0 from Decidable.byContradiction (fun h9 => c_5 h9)) hf
        refine sh_inc (i' := 3) i75_21 rfl (xokst_of (Nat.le_of_ble_eq_true rfl) rfl) rfl ?_
        refine sh_goto (t := 2) i75_24 rfl ?_
        exact ih hf
def fn75 (o0 : Option Nat) (x1 : Int32) (x2 : Int32) (h : xH) : Option (Option Nat × xH) := l75_2 xFuel o0 x1 x2 x1 h
theorem fn75_call {xs : List Int32} {d : Nat} (hd : 4 ≤ d) {o0 : Option Nat} {x1 : Int32} {x2 : Int32} {h : xH} {r : (Option Nat × xH)} (hf : fn75 o0 x1 x2 h = some r) : xCall (xTa xs) d 75 [xrv o0, .int x1, .int x2] h (some (xrv r.1), r.2) := by
  obtain ⟨d, rfl⟩ : ∃ d2, d = d2 + 1 := ⟨d - 1, by omega⟩
  replace hd : 3 ≤ d := by omega
  refine call_of2 (fl := [xrv o0, .int x1, .int x2]) (Ls := [xrv o0, .int x1, .int x2, .float 0]) m75 (by simp [xfl, xrv_cat, xc_i, xc_j, xc_a, xc_f]) (Nat.le_of_ble_eq_true rfl) rfl ?_
  unfold fn75 at hf
  refine ev_do i75_0 rfl ?_
  refine sh_istore (i' := 3) (n := 1) i75_1 (Or.inr ⟨rfl, by decide⟩) (xokst_of (Nat.le_of_ble_eq_true rfl) rfl) ?_
  exact l75_2_ok hd xFuel hf
end
section
def fn78 (o0 : Option Nat) (x1 : Int32) (x2 : Int32) (h : xH) : Option (Option Nat × xH) := none
theorem fn78_call {xs : List Int32} {d : Nat} (hd : 4 ≤ d) {o0 : Option Nat} {x1 : Int32} {x2 : Int32} {h : xH} {r : (Option Nat × xH)} (hf : fn78 o0 x1 x2 h = some r) : xCall (xTa xs) d 78 [xrv o0, .int x1, .int x2] h (some (xrv r.1), r.2) := by
  obtain ⟨d, rfl⟩ : ∃ d2, d = d2 + 1 := ⟨d - 1, by omega⟩
  replace hd : 3 ≤ d := by omega
  refine call_of2 (fl := [xrv o0, .int x1, .int x2]) (Ls := [xrv o0, .int x1, .int x2, .float 0, .float 0, .float 0, .float 0]) m78 (by simp [xfl, xrv_cat, xc_i, xc_j, xc_a, xc_f]) (Nat.le_of_ble_eq_true rfl) rfl ?_
  unfold fn78 at hf
  refine ev_do i78_0 rfl ?_
  cases hf
end
section
def j80_47  (o0 : Option Nat) (x1 : Int32) (x2 : Int32) (s0 : Int32) (h : xH) : Option (Int32 × xH) := (if s0 &&& 1 = s0 then some (s0, h) else none)
theorem j80_47_ok {xs : List Int32} {d : Nat} (hd : 3 ≤ d) {o0 : Option Nat} {x1 : Int32} {x2 : Int32} {s0 : Int32} {h : xH} {r : (Int32 × xH)} (hf : j80_47 o0 x1 x2 s0 h = some r) : xEv (xTa xs) d 80 (47, [xrv o0, .int x1, .int x2], [.int s0], h) (some (.int r.1), r.2) := by
  unfold j80_47 at hf
  by_cases c_1 : s0 &&& 1 = s0
  · replace hf := x_pos c_1 hf
    obtain rfl := Option.some.inj hf
    exact sh_iret i80_47 m80 rfl (congrArg Value.int c_1)
  · replace hf := x_neg c_1 hf
    cases hf
def j80_46  (o0 : Option Nat) (x1 : Int32) (x2 : Int32) (h : xH) : Option (Int32 × xH) := j80_47 o0 x1 x2 0 h
theorem j80_46_ok {xs : List Int32} {d : Nat} (hd : 3 ≤ d) {o0 : Option Nat} {x1 : Int32} {x2 : Int32} {h : xH} {r : (Int32 × xH)} (hf : j80_46 o0 x1 x2 h = some r) : xEv (xTa xs) d 80 (46, [xrv o0, .int x1, .int x2], [], h) (some (.int r.1), r.2) := by
  unfold j80_46 at hf
  refine ev_do i80_46 rfl ?_
  exact j80_47_ok hd hf
def fn80 (o0 : Option Nat) (x1 : Int32) (x2 : Int32) (h : xH) : Option (Int32 × xH) := (fn135 (x2 - x1) 1 60 h).bind fun r_1 => (if r_1.1 = 0 then j80_46 o0 x1 x2 r_1.2 else (xgR r_1.2 o0 7 2).bind fun a_3 => (xcv r_1.2 a_3 9).bind fun _ => (fn96 a_3 (x2 - 1) r_1.2).bind fun r_4 => (if r_4.1 = 32 then j80_46 o0 x1 x2 r_4.2 else (xgR r_4.2 o0 7 2).bind fun a_6 => (xcv r_4.2 a_6 9).bind fun _ => (fn105 a_6 123 x1 x2 r_4.2).bind fun r_7 => (if r_7.1 = x2 then j80_47 o0 x1 x2 1 r_7.2 else j80_46 o0 x1 x2 r_7.2)))
theorem fn80_call {xs : List Int32} {d : Nat} (hd : 4 ≤ d) {o0 : Option Nat} {x1 : Int32} {x2 : Int32} {h : xH} {r : (Int32 × xH)} (hf : fn80 o0 x1 x2 h = some r) : xCall (xTa xs) d 80 [xrv o0, .int x1, .int x2] h (some (.int r.1), r.2) := by
  obtain ⟨d, rfl⟩ : ∃ d2, d = d2 + 1 := ⟨d - 1, by omega⟩
  replace hd : 3 ≤ d := by omega
  refine call_of2 (fl := [xrv o0, .int x1, .int x2]) (Ls := [xrv o0, .int x1, .int x2]) m80 (by simp [xfl, xrv_cat, xc_i, xc_j, xc_a, xc_f]) (Nat.le_of_ble_eq_true rfl) rfl ?_
  unfold fn80 at hf
  refine ev_do i80_0 rfl ?_
  refine ev_do i80_1 rfl ?_
  refine ev_do i80_2 rfl ?_
  refine ev_do i80_3 rfl ?_
  refine ev_do i80_4 rfl ?_
  obtain ⟨r_1, er_1, hf⟩ := x_bind hf
  refine ev_sta (as := [.int 60, .int 1, .int (x2 - x1)]) (z := (some (.int r_1.1), r_1.2)) i80_6 v80_77 (Or.inr rfl) m135 rfl (Nat.le_of_ble_eq_true rfl) (fn135_call (by omega) er_1) ?_
  refine ev_if (t := 46) i80_9 rfl (fun c_2 => ?_) (fun c_2 => ?_)
  · replace hf := x_pos (show r_1.1 = 0 from c_2) hf
    exact j80_46_ok hd hf
  · replace hf := x_neg (show ¬ r_1.1 = 0 from c_2) hf
    refine sh_aload (i' := 0) (n := 1) i80_12 (Or.inr ⟨rfl, by decide⟩) rfl ?_
    obtain ⟨a_3, ea_3, hf⟩ := x_bind hf
    refine sh_getR i80_13 f80_29 ea_3 ?_
    refine ev_do i80_16 rfl ?_
    refine ev_do i80_17 rfl ?_
    refine ev_do i80_18 rfl ?_
    obtain ⟨_, eu_10, hf⟩ := x_bind hf
    obtain ⟨r_4, er_4, hf⟩ := x_bind hf
    refine sh_inv (as := [.int (x2 - 1)]) (z := (some (.int r_4.1), r_4.2)) i80_19 v80_73 (Or.inl ⟨by decide, rfl⟩) m96 rfl (Nat.le_of_ble_eq_true rfl) eu_10 (fn96_call (by omega) er_4) ?_
    refine ev_do i80_22 rfl ?_
    refine ev_icmp (t := 46) i80_24 rfl (fun c_5 => ?_) (fun c_5 => ?_)
    · replace hf := x_pos (show r_4.1 = 32 from c_5) hf
      exact j80_46_ok hd hf
    · replace hf := x_neg (show ¬ r_4.1 = 32 from c_5) hf
      refine sh_aload (i' := 0) (n := 1) i80_27 (Or.inr ⟨rfl, by decide⟩) rfl ?_
      obtain ⟨a_6, ea_6, hf⟩ := x_bind hf
      refine sh_getR i80_28 f80_29 ea_6 ?_
      refine ev_do i80_31 rfl ?_
      refine ev_do i80_33 rfl ?_
      refine ev_do i80_34 rfl ?_
      obtain ⟨_, eu_9, hf⟩ := x_bind hf
      obtain ⟨r_7, er_7, hf⟩ := x_bind hf
      refine sh_inv (as := [.int x2, .int x1, .int 123]) (z := (some (.int r_7.1), r_7.2)) i80_35 v80_51 (Or.inl ⟨by decide, rfl⟩) m105 rfl (Nat.le_of_ble_eq_true rfl) eu_9 (fn105_call (by omega) er_7) ?_
      refine ev_do i80_38 rfl ?_
      refine ev_icmp (t := 46) i80_39 rfl (fun c_8 => ?_) (fun c_8 => ?_)
      · replace hf := x_neg (show ¬ r_7.1 = x2 from c_8) hf
        exact j80_46_ok hd hf
      · replace hf := x_pos (show r_7.1 = x2 from Decidable.byContradiction (fun h9 => c_8 h9)) hf
        refine ev_do i80_42 rfl ?_
        refine sh_goto (t := 47) i80_43 rfl ?_
        exact j80_47_ok hd hf
end
section
def j106_23  (o0 : Option Nat) (x1 : Int32) (x2 : Int32) (x3 : Int32) (h : xH) : Option (Int32 × xH) := some (x3, h)
theorem j106_23_ok {xs : List Int32} {d : Nat} (hd : 2 ≤ d) {o0 : Option Nat} {x1 : Int32} {x2 : Int32} {x3 : Int32} {h : xH} {r : (Int32 × xH)} (hf : j106_23 o0 x1 x2 x3 h = some r) : xEv (xTa xs) d 106 (23, [xrv o0, .int x1, .int x2, .int x3], [], h) (some (.int r.1), r.2) := by
  unfold j106_23 at hf
  refine ev_do i106_23 rfl ?_
  obtain rfl := Option.some.inj hf
  exact sh_iret i106_24 m106 rfl rfl
def l106_2  : Nat → Option Nat → Int32 → Int32 → Int32 → xH → Option (Int32 × xH)
  | 0 => fun _ _ _ _ _ => none
  | n + 1 => fun o0 x1 x2 x3 h => (if x2 ≤ x3 then j106_23 o0 x1 x2 x3 h else (xcv h o0 9).bind fun _ => (fn96 o0 x3 h).bind fun r_2 => (if r_2.1 = 32 then l106_2 n o0 x1 x2 (x3 + 1) r_2.2 else j106_23 o0 x1 x2 x3 r_2.2))
theorem l106_2_ok {xs : List Int32} {d : Nat} (hd : 2 ≤ d) : ∀ (n : Nat) {o0 : Option Nat} {x1 : Int32} {x2 : Int32} {x3 : Int32} {h : xH} {r : (Int32 × xH)}, l106_2 n o0 x1 x2 x3 h = some r → xEv (xTa xs) d 106 (2, [xrv o0, .int x1, .int x2, .int x3], [], h) (some (.int r.1), r.2) := by
  intro n
  induction n with
  | zero => intros; rename_i hf; cases hf
  | succ n ih =>
    intro o0 x1 x2 x3 h r hf
    replace hf : ((if x2 ≤ x3 then j106_23 o0 x1 x2 x3 h else (xcv h o0 9).bind fun _ => (fn96 o0 x3 h).bind fun r_2 => (if r_2.1 = 32 then l106_2 n o0 x1 x2 (x3 + 1) r_2.2 else j106_23 o0 x1 x2 x3 r_2.2))) = some r := hf
    refine ev_do i106_2 rfl ?_
    refine ev_do i106_3 rfl ?_
    refine ev_icmp (t := 23) i106_4 rfl (fun c_1 => ?_) (fun c_1 => ?_)
    · replace hf := x_pos (show x2 ≤ x3 from c_1) hf
      exact j106_23_ok hd hf
    · replace hf := x_neg (show ¬ x2 ≤ x3 from c_1) hf
      refine sh_aload (i' := 0) (n := 1) i106_7 (Or.inr ⟨rfl, by decide⟩) rfl ?_
      refine ev_do i106_8 rfl ?_
      obtain ⟨_, eu_4, hf⟩ := x_bind hf
      obtain ⟨r_2, er_2, hf⟩ := x_bind hf
      refine sh_inv (as := [.int x3]) (z := (some (.int r_2.1), r_2.2)) i106_9 v106_39 (Or.inl ⟨by decide, rfl⟩) m96 rfl (Nat.le_of_ble_eq_true rfl) eu_4 (fn96_call (by omega) er_2) ?_
      refine ev_do i106_12 rfl ?_
      refine ev_icmp (t := 23) i106_14 rfl (fun c_3 => ?_) (fun c_3 => ?_)
      · replace hf := x_neg (show ¬ r_2.1 = 32 from c_3) hf
        exact j106_23_ok hd hf
      · replace hf := x_pos (show r_2.1 = 32 from Decidable.byContradiction (fun h9 => c_3 h9)) hf
        refine sh_inc (i' := 3) i106_17 rfl (xokst_of (Nat.le_of_ble_eq_true rfl) rfl) rfl ?_
        refine sh_goto (t := 2) i106_20 rfl ?_
        exact ih hf
def fn106 (o0 : Option Nat) (x1 : Int32) (x2 : Int32) (h : xH) : Option (Int32 × xH) := l106_2 xFuel o0 x1 x2 x1 h
theorem fn106_call {xs : List Int32} {d : Nat} (hd : 3 ≤ d) {o0 : Option Nat} {x1 : Int32} {x2 : Int32} {h : xH} {r : (Int32 × xH)} (hf : fn106 o0 x1 x2 h = some r) : xCall (xTa xs) d 106 [xrv o0, .int x1, .int x2] h (some (.int r.1), r.2) := by
  obtain ⟨d, rfl⟩ : ∃ d2, d = d2 + 1 := ⟨d - 1, by omega⟩
  replace hd : 2 ≤ d := by omega
  refine call_of2 (fl := [xrv o0, .int x1, .int x2]) (Ls := [xrv o0, .int x1, .int x2, .float 0]) m106 (by simp [xfl, xrv_cat, xc_i, xc_j, xc_a, xc_f]) (Nat.le_of_ble_eq_true rfl) rfl ?_
  unfold fn106 at hf
  refine ev_do i106_0 rfl ?_
  refine sh_istore (i' := 3) (n := 1) i106_1 (Or.inr ⟨rfl, by decide⟩) (xokst_of (Nat.le_of_ble_eq_true rfl) rfl) ?_
  exact l106_2_ok hd xFuel hf
end
