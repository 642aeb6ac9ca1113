section
def j150_112  (o0 : Option Nat) (x1 : Int32) (x2 : Int32) (x3 : Int32) (h : xH) : Option (Int32 × xH) := (if x2 &&& 1 = x2 then some (x2, h) else none)
theorem j150_112_ok {xs : List Int32} {d : Nat} (hd : 2 ≤ d) {o0 : Option Nat} {x1 : Int32} {x2 : Int32} {x3 : Int32} {h : xH} {r : (Int32 × xH)} (hf : j150_112 o0 x1 x2 x3 h = some r) : xEv (xTa xs) d 150 (112, [xrv o0, .int x1, .int x2, .int x3], [], h) (some (.int r.1), r.2) := by
  unfold j150_112 at hf
  refine ev_do i150_112 rfl ?_
  by_cases c_1 : x2 &&& 1 = x2
  · replace hf := x_pos c_1 hf
    obtain rfl := Option.some.inj hf
    exact sh_iret i150_113 m150 rfl (congrArg Value.int c_1)
  · replace hf := x_neg c_1 hf
    cases hf
def j150_105 (k52 : Option Nat → Int32 → Int32 → Int32 → xH → Option (Int32 × xH)) (o0 : Option Nat) (x1 : Int32) (x2 : Int32) (x3 : Int32) (s0 : Int32) (h : xH) : Option (Int32 × xH) := k52 o0 x1 s0 (x3 + 1) h
theorem j150_105_ok {xs : List Int32} {d : Nat} (hd : 2 ≤ d) {k52 : Option Nat → Int32 → Int32 → Int32 → xH → Option (Int32 × xH)} (hk52 : ∀ {o0 : Option Nat} {x1 : Int32} {x2 : Int32} {x3 : Int32} {h : xH} {r : (Int32 × xH)}, k52 o0 x1 x2 x3 h = some r → xEv (xTa xs) d 150 (52, [xrv o0, .int x1, .int x2, .int x3], [], h) (some (.int r.1), r.2)) {o0 : Option Nat} {x1 : Int32} {x2 : Int32} {x3 : Int32} {s0 : Int32} {h : xH} {r : (Int32 × xH)} (hf : j150_105 k52 o0 x1 x2 x3 s0 h = some r) : xEv (xTa xs) d 150 (105, [xrv o0, .int x1, .int x2, .int x3], [.int s0], h) (some (.int r.1), r.2) := by
  unfold j150_105 at hf
  refine sh_istore (i' := 2) (n := 1) i150_105 (Or.inr ⟨rfl, by decide⟩) (xokst_of (Nat.le_of_ble_eq_true rfl) rfl) ?_
  refine sh_inc (i' := 3) i150_106 rfl (xokst_of (Nat.le_of_ble_eq_true rfl) rfl) rfl ?_
  refine sh_goto (t := 52) i150_109 rfl ?_
  exact hk52 hf
def j150_100 (k52 : Option Nat → Int32 → Int32 → Int32 → xH → Option (Int32 × xH)) (o0 : Option Nat) (x1 : Int32) (x2 : Int32) (x3 : Int32) (h : xH) : Option (Int32 × xH) := j150_105 k52 o0 x1 x2 x3 1 h
theorem j150_100_ok {xs : List Int32} {d : Nat} (hd : 2 ≤ d) {k52 : Option Nat → Int32 → Int32 → Int32 → xH → Option (Int32 × xH)} (hk52 : ∀ {o0 : Option Nat} {x1 : Int32} {x2 : Int32} {x3 : Int32} {h : xH} {r : (Int32 × xH)}, k52 o0 x1 x2 x3 h = some r → xEv (xTa xs) d 150 (52, [xrv o0, .int x1, .int x2, .int x3], [], h) (some (.int r.1), r.2)) {o0 : Option Nat} {x1 : Int32} {x2 : Int32} {x3 : Int32} {h : xH} {r : (Int32 × xH)} (hf : j150_100 k52 o0 x1 x2 x3 h = some r) : xEv (xTa xs) d 150 (100, [xrv o0, .int x1, .int x2, .int x3], [], h) (some (.int r.1), r.2) := by
  unfold j150_100 at hf
  refine ev_do i150_100 rfl ?_
  refine sh_goto (t := 105) i150_101 rfl ?_
  exact j150_105_ok hd hk52 hf
def l150_52  : Nat → Option Nat → Int32 → Int32 → Int32 → xH → Option (Int32 × xH)
  | 0 => fun _ _ _ _ _ => none
  | n + 1 => fun o0 x1 x2 x3 h => (xgI h o0 11 1).bind fun v_1 => (if v_1 ≤ x3 then j150_112 o0 x1 x2 x3 h else (if x2 = 0 then j150_112 o0 x1 x2 x3 h else (xgR h o0 11 0).bind fun a_4 => (xaI h 13 a_4 x3).bind fun v_5 => (fn145 v_5 h).bind fun r_6 => (if r_6.1 = 0 then (xgR r_6.2 o0 11 0).bind fun a_8 => (xaI r_6.2 13 a_8 x3).bind fun v_9 => (fn146 v_9 r_6.2).bind fun r_10 => (if r_10.1 = 0 then (xgR r_10.2 o0 11 0).bind fun a_12 => (xaI r_10.2 13 a_12 x3).bind fun v_13 => (fn147 v_13 r_10.2).bind fun r_14 => (if r_14.1 = 0 then j150_105 (l150_52 n) o0 x1 x2 x3 0 r_14.2 else j150_100 (l150_52 n) o0 x1 x2 x3 r_14.2) else j150_100 (l150_52 n) o0 x1 x2 x3 r_10.2) else j150_100 (l150_52 n) o0 x1 x2 x3 r_6.2)))
theorem l150_52_ok {xs : List Int32} {d : Nat} (hd : 2 ≤ d) : ∀ (n : Nat) {o0 : Option Nat} {x1 : Int32} {x2 : Int32} {x3 : Int32} {h : xH} {r : (Int32 × xH)}, l150_52 n o0 x1 x2 x3 h = some r → xEv (xTa xs) d 150 (52, [xrv o0, .int x1, .int x2, .int x3], [], h) (some (.int r.1), r.2) := by
  intro n
  induction n with
  | zero => intros; rename_i hf; cases hf
  | succ n ih =>
    intro o0 x1 x2 x3 h r hf
    replace hf : ((xgI h o0 11 1).bind fun v_1 => (if v_1 ≤ x3 then j150_112 o0 x1 x2 x3 h else (if x2 = 0 then j150_112 o0 x1 x2 x3 h else (xgR h o0 11 0).bind fun a_4 => (xaI h 13 a_4 x3).bind fun v_5 => (fn145 v_5 h).bind fun r_6 => (if r_6.1 = 0 then (xgR r_6.2 o0 11 0).bind fun a_8 => (xaI r_6.2 13 a_8 x3).bind fun v_9 => (fn146 v_9 r_6.2).bind fun r_10 => (if r_10.1 = 0 then (xgR r_10.2 o0 11 0).bind fun a_12 => (xaI r_10.2 13 a_12 x3).bind fun v_13 => (fn147 v_13 r_10.2).bind fun r_14 => (if r_14.1 = 0 then j150_105 (l150_52 n) o0 x1 x2 x3 0 r_14.2 else j150_100 (l150_52 n) o0 x1 x2 x3 r_14.2) else j150_100 (l150_52 n) o0 x1 x2 x3 r_10.2) else j150_100 (l150_52 n) o0 x1 x2 x3 r_6.2)))) = some r := hf
    refine ev_do i150_52 rfl ?_
    refine sh_aload (i' := 0) (n := 1) i150_53 (Or.inr ⟨rfl, by decide⟩) rfl ?_
    obtain ⟨v_1, ev_1, hf⟩ := x_bind hf
    refine sh_getI i150_54 f150_146 ev_1 ?_
    refine ev_icmp (t := 112) i150_57 rfl (fun c_2 => ?_) (fun c_2 => ?_)
    · replace hf := x_pos (show v_1 ≤ x3 from c_2) hf
      exact j150_112_ok hd hf
    · replace hf := x_neg (show ¬ v_1 ≤ x3 from c_2) hf
      refine ev_do i150_60 rfl ?_
      refine ev_if (t := 112) i150_61 rfl (fun c_3 => ?_) (fun c_3 => ?_)
      · replace hf := x_pos (show x2 = 0 from c_3) hf
        exact j150_112_ok hd hf
      · replace hf := x_neg (show ¬ x2 = 0 from c_3) hf
        refine sh_aload (i' := 0) (n := 1) i150_64 (Or.inr ⟨rfl, by decide⟩) rfl ?_
        obtain ⟨a_4, ea_4, hf⟩ := x_bind hf
        refine sh_getR i150_65 f150_9 ea_4 ?_
        refine ev_do i150_68 rfl ?_
        obtain ⟨v_5, ev_5, hf⟩ := x_bind hf
        refine sh_aldI (tg := 13) i150_69 (Or.inl ⟨rfl, rfl⟩) ev_5 ?_
        obtain ⟨r_6, er_6, hf⟩ := x_bind hf
        refine ev_sta (as := [.int v_5]) (z := (some (.int r_6.1), r_6.2)) i150_70 v150_165 (Or.inl rfl) m145 rfl (Nat.le_of_ble_eq_true rfl) (fn145_call (by omega) er_6) ?_
        refine ev_if (t := 100) i150_73 rfl (fun c_7 => ?_) (fun c_7 => ?_)
        · replace hf := x_neg (show ¬ r_6.1 = 0 from c_7) hf
          exact j150_100_ok hd ih hf
        · replace hf := x_pos (show r_6.1 = 0 from Decidable.byContradiction (fun h9 => c_7 h9)) hf
          refine sh_aload (i' := 0) (n := 1) i150_76 (Or.inr ⟨rfl, by decide⟩) rfl ?_
          obtain ⟨a_8, ea_8, hf⟩ := x_bind hf
          refine sh_getR i150_77 f150_9 ea_8 ?_
          refine ev_do i150_80 rfl ?_
          obtain ⟨v_9, ev_9, hf⟩ := x_bind hf
          refine sh_aldI (tg := 13) i150_81 (Or.inl ⟨rfl, rfl⟩) ev_9 ?_
          obtain ⟨r_10, er_10, hf⟩ := x_bind hf
          refine ev_sta (as := [.int v_9]) (z := (some (.int r_10.1), r_10.2)) i150_82 v150_168 (Or.inl rfl) m146 rfl (Nat.le_of_ble_eq_true rfl) (fn146_call (by omega) er_10) ?_
          refine ev_if (t := 100) i150_85 rfl (fun c_11 => ?_) (fun c_11 => ?_)
          · replace hf := x_neg (show ¬ r_10.1 = 0 from c_11) hf
            exact j150_100_ok hd ih hf
          · replace hf := x_pos (show r_10.1 = 0 from Decidable.byContradiction (fun h9 => c_11 h9)) hf
            refine sh_aload (i' := 0) (n := 1) i150_88 (Or.inr ⟨rfl, by decide⟩) rfl ?_
            obtain ⟨a_12, ea_12, hf⟩ := x_bind hf
            refine sh_getR i150_89 f150_9 ea_12 ?_
            refine ev_do i150_92 rfl ?_
            obtain ⟨v_13, ev_13, hf⟩ := x_bind hf
            refine sh_aldI (tg := 13) i150_93 (Or.inl ⟨rfl, rfl⟩) ev_13 ?_
            obtain ⟨r_14, er_14, hf⟩ := x_bind hf
            refine ev_sta (as := [.int v_13]) (z := (some (.int r_14.1), r_14.2)) i150_94 v150_171 (Or.inl rfl) m147 rfl (Nat.le_of_ble_eq_true rfl) (fn147_call (by omega) er_14) ?_
            refine ev_if (t := 104) i150_97 rfl (fun c_15 => ?_) (fun c_15 => ?_)
            · replace hf := x_pos (show r_14.1 = 0 from c_15) hf
              refine ev_do i150_104 rfl ?_
              exact j150_105_ok hd ih hf
            · replace hf := x_neg (show ¬ r_14.1 = 0 from c_15) hf
              exact j150_100_ok hd ih hf
def j150_49  (o0 : Option Nat) (x1 : Int32) (s0 : Int32) (h : xH) : Option (Int32 × xH) := l150_52 xFuel o0 x1 s0 0 h
theorem j150_49_ok {xs : List Int32} {d : Nat} (hd : 2 ≤ d) {u2 : Value} {u3 : Value} {o0 : Option Nat} {x1 : Int32} {s0 : Int32} {h : xH} {r : (Int32 × xH)} (hu2 : u2.category = 1) (hu3 : u3.category = 1) (hf : j150_49 o0 x1 s0 h = some r) : xEv (xTa xs) d 150 (49, [xrv o0, .int x1, u2, u3], [.int s0], h) (some (.int r.1), r.2) := by
  unfold j150_49 at hf
  refine sh_istore (i' := 2) (n := 1) i150_49 (Or.inr ⟨rfl, by decide⟩) (xokst_of (Nat.le_of_ble_eq_true rfl) rfl) ?_
  refine ev_do i150_50 rfl ?_
  refine sh_istore (i' := 3) (n := 1) i150_51 (Or.inr ⟨rfl, by decide⟩) (xokst_of (Nat.le_of_ble_eq_true rfl) rfl) ?_
  exact l150_52_ok hd xFuel hf
def j150_48  (o0 : Option Nat) (x1 : Int32) (h : xH) : Option (Int32 × xH) := j150_49 o0 x1 0 h
theorem j150_48_ok {xs : List Int32} {d : Nat} (hd : 2 ≤ d) {u2 : Value} {u3 : Value} {o0 : Option Nat} {x1 : Int32} {h : xH} {r : (Int32 × xH)} (hu2 : u2.category = 1) (hu3 : u3.category = 1) (hf : j150_48 o0 x1 h = some r) : xEv (xTa xs) d 150 (48, [xrv o0, .int x1, u2, u3], [], h) (some (.int r.1), r.2) := by
  unfold j150_48 at hf
  refine ev_do i150_48 rfl ?_
  exact j150_49_ok hd hu2 hu3 hf
def j150_44  (o0 : Option Nat) (x1 : Int32) (h : xH) : Option (Int32 × xH) := j150_49 o0 x1 1 h
theorem j150_44_ok {xs : List Int32} {d : Nat} (hd : 2 ≤ d) {u2 : Value} {u3 : Value} {o0 : Option Nat} {x1 : Int32} {h : xH} {r : (Int32 × xH)} (hu2 : u2.category = 1) (hu3 : u3.category = 1) (hf : j150_44 o0 x1 h = some r) : xEv (xTa xs) d 150 (44, [xrv o0, .int x1, u2, u3], [], h) (some (.int r.1), r.2) := by
  unfold j150_44 at hf
  refine ev_do i150_44 rfl ?_
  refine sh_goto (t := 49) i150_45 rfl ?_
  exact j150_49_ok hd hu2 hu3 hf
def fn150 (o0 : Option Nat) (x1 : Int32) (h : xH) : Option (Int32 × xH) := (xgI h o0 11 1).bind fun v_1 => (fn141 v_1 1 10 h).bind fun r_2 => (if r_2.1 = 0 then j150_48 o0 x1 r_2.2 else (if x1 = 0 then (xgR r_2.2 o0 11 0).bind fun a_5 => (xaI r_2.2 13 a_5 0).bind fun v_6 => (fn146 v_6 r_2.2).bind fun r_7 => (if r_7.1 = 0 then j150_48 o0 x1 r_7.2 else j150_44 o0 x1 r_7.2) else (xgR r_2.2 o0 11 0).bind fun a_9 => (xaI r_2.2 13 a_9 0).bind fun v_10 => (fn145 v_10 r_2.2).bind fun r_11 => (if r_11.1 = 0 then j150_48 o0 x1 r_11.2 else j150_44 o0 x1 r_11.2)))
theorem fn150_call {xs : List Int32} {d : Nat} (hd : 3 ≤ d) {o0 : Option Nat} {x1 : Int32} {h : xH} {r : (Int32 × xH)} (hf : fn150 o0 x1 h = some r) : xCall (xTa xs) d 150 [xrv o0, .int x1] h (some (.int r.1), r.2) := by
  obtain ⟨d, rfl⟩ : ∃ d2, d = d2 + 1 := ⟨d - 1, by omega⟩
  replace hd : 2 ≤ d := by omega
  refine call_of2 (fl := [xrv o0, .int x1]) (Ls := [xrv o0, .int x1, .float 0, .float 0]) m150 (by simp [xfl, xrv_cat, xc_i, xc_j, xc_a, xc_f]) (Nat.le_of_ble_eq_true rfl) rfl ?_
  unfold fn150 at hf
  refine sh_aload (i' := 0) (n := 1) i150_0 (Or.inr ⟨rfl, by decide⟩) rfl ?_
  obtain ⟨v_1, ev_1, hf⟩ := x_bind hf
  refine sh_getI i150_1 f150_146 ev_1 ?_
  refine ev_do i150_4 rfl ?_
  refine ev_do i150_5 rfl ?_
  obtain ⟨r_2, er_2, hf⟩ := x_bind hf
  refine ev_sta (as := [.int 10, .int 1, .int v_1]) (z := (some (.int r_2.1), r_2.2)) i150_7 v150_154 (Or.inl rfl) m141 rfl (Nat.le_of_ble_eq_true rfl) (fn141_call (by omega) er_2) ?_
  refine ev_if (t := 48) i150_10 rfl (fun c_3 => ?_) (fun c_3 => ?_)
  · replace hf := x_pos (show r_2.1 = 0 from c_3) hf
    exact j150_48_ok hd rfl rfl hf
  · replace hf := x_neg (show ¬ r_2.1 = 0 from c_3) hf
    refine ev_do i150_13 rfl ?_
    refine ev_if (t := 32) i150_14 rfl (fun c_4 => ?_) (fun c_4 => ?_)
    · replace hf := x_pos (show x1 = 0 from c_4) hf
      refine sh_aload (i' := 0) (n := 1) i150_32 (Or.inr ⟨rfl, by decide⟩) rfl ?_
      obtain ⟨a_5, ea_5, hf⟩ := x_bind hf
      refine sh_getR i150_33 f150_9 ea_5 ?_
      refine ev_do i150_36 rfl ?_
      obtain ⟨v_6, ev_6, hf⟩ := x_bind hf
      refine sh_aldI (tg := 13) i150_37 (Or.inl ⟨rfl, rfl⟩) ev_6 ?_
      obtain ⟨r_7, er_7, hf⟩ := x_bind hf
      refine ev_sta (as := [.int v_6]) (z := (some (.int r_7.1), r_7.2)) i150_38 v150_168 (Or.inl rfl) m146 rfl (Nat.le_of_ble_eq_true rfl) (fn146_call (by omega) er_7) ?_
      refine ev_if (t := 48) i150_41 rfl (fun c_8 => ?_) (fun c_8 => ?_)
      · replace hf := x_pos (show r_7.1 = 0 from c_8) hf
        exact j150_48_ok hd rfl rfl hf
      · replace hf := x_neg (show ¬ r_7.1 = 0 from c_8) hf
        exact j150_44_ok hd rfl rfl hf
    · replace hf := x_neg (show ¬ x1 = 0 from c_4) hf
      refine sh_aload (i' := 0) (n := 1) i150_17 (Or.inr ⟨rfl, by decide⟩) rfl ?_
      obtain ⟨a_9, ea_9, hf⟩ := x_bind hf
      refine sh_getR i150_18 f150_9 ea_9 ?_
      refine ev_do i150_21 rfl ?_
      obtain ⟨v_10, ev_10, hf⟩ := x_bind hf
      refine sh_aldI (tg := 13) i150_22 (Or.inl ⟨rfl, rfl⟩) ev_10 ?_
      obtain ⟨r_11, er_11, hf⟩ := x_bind hf
      refine ev_sta (as := [.int v_10]) (z := (some (.int r_11.1), r_11.2)) i150_23 v150_165 (Or.inl rfl) m145 rfl (Nat.le_of_ble_eq_true rfl) (fn145_call (by omega) er_11) ?_
      refine ev_if (t := 48) i150_26 rfl (fun c_12 => ?_) (fun c_12 => ?_)
      · replace hf := x_pos (show r_11.1 = 0 from c_12) hf
        exact j150_48_ok hd rfl rfl hf
      · replace hf := x_neg (show ¬ r_11.1 = 0 from c_12) hf
        refine sh_goto (t := 44) i150_29 rfl ?_
        exact j150_44_ok hd rfl rfl hf
end
section
def j151_58  (o0 : Option Nat) (o1 : Option Nat) (x2 : Int32) (x3 : Int32) (x4 : Int32) (x5 : Int32) (h : xH) : Option (Int32 × xH) := (if x4 &&& 1 = x4 then some (x4, h) else none)
theorem j151_58_ok {xs : List Int32} {d : Nat} (hd : 1 ≤ d) {o0 : Option Nat} {o1 : Option Nat} {x2 : Int32} {x3 : Int32} {x4 : Int32} {x5 : Int32} {h : xH} {r : (Int32 × xH)} (hf : j151_58 o0 o1 x2 x3 x4 x5 h = some r) : xEv (xTa xs) d 151 (58, [xrv o0, xrv o1, .int x2, .int x3, .int x4, .int x5], [], h) (some (.int r.1), r.2) := by
  unfold j151_58 at hf
  refine ev_do i151_58 rfl ?_
  by_cases c_1 : x4 &&& 1 = x4
  · replace hf := x_pos c_1 hf
    obtain rfl := Option.some.inj hf
    exact sh_iret i151_60 m151 rfl (congrArg Value.int c_1)
  · replace hf := x_neg c_1 hf
    cases hf
def j151_50 (k18 : Option Nat → Option Nat → Int32 → Int32 → Int32 → Int32 → xH → Option (Int32 × xH)) (o0 : Option Nat) (o1 : Option Nat) (x2 : Int32) (x3 : Int32) (x4 : Int32) (x5 : Int32) (s0 : Int32) (h : xH) : Option (Int32 × xH) := k18 o0 o1 x2 x3 s0 (x5 + 1) h
theorem j151_50_ok {xs : List Int32} {d : Nat} (hd : 1 ≤ d) {k18 : Option Nat → Option Nat → Int32 → Int32 → Int32 → Int32 → xH → Option (Int32 × xH)} (hk18 : ∀ {o0 : Option Nat} {o1 : Option Nat} {x2 : Int32} {x3 : Int32} {x4 : Int32} {x5 : Int32} {h : xH} {r : (Int32 × xH)}, k18 o0 o1 x2 x3 x4 x5 h = some r → xEv (xTa xs) d 151 (18, [xrv o0, xrv o1, .int x2, .int x3, .int x4, .int x5], [], h) (some (.int r.1), r.2)) {o0 : Option Nat} {o1 : Option Nat} {x2 : Int32} {x3 : Int32} {x4 : Int32} {x5 : Int32} {s0 : Int32} {h : xH} {r : (Int32 × xH)} (hf : j151_50 k18 o0 o1 x2 x3 x4 x5 s0 h = some r) : xEv (xTa xs) d 151 (50, [xrv o0, xrv o1, .int x2, .int x3, .int x4, .int x5], [.int s0], h) (some (.int r.1), r.2) := by
  unfold j151_50 at hf
  refine sh_istore (i' := 4) (n := 2) i151_50 (Or.inl rfl) (xokst_of (Nat.le_of_ble_eq_true rfl) rfl) ?_
  refine sh_inc (i' := 5) i151_52 rfl (xokst_of (Nat.le_of_ble_eq_true rfl) rfl) rfl ?_
  refine sh_goto (t := 18) i151_55 rfl ?_
  exact hk18 hf
def l151_18  : Nat → Option Nat → Option Nat → Int32 → Int32 → Int32 → Int32 → xH → Option (Int32 × xH)
  | 0 => fun _ _ _ _ _ _ _ => none
  | n + 1 => fun o0 o1 x2 x3 x4 x5 h => (if x3 ≤ x5 then j151_58 o0 o1 x2 x3 x4 x5 h else (if x4 = 0 then j151_58 o0 o1 x2 x3 x4 x5 h else (xaI h 13 o1 (x2 + x5)).bind fun v_3 => (xgR h o0 11 0).bind fun a_4 => (xaI h 13 a_4 x5).bind fun v_5 => (if v_3 = v_5 then j151_50 (l151_18 n) o0 o1 x2 x3 x4 x5 1 h else j151_50 (l151_18 n) o0 o1 x2 x3 x4 x5 0 h)))
theorem l151_18_ok {xs : List Int32} {d : Nat} (hd : 1 ≤ d) : ∀ (n : Nat) {o0 : Option Nat} {o1 : Option Nat} {x2 : Int32} {x3 : Int32} {x4 : Int32} {x5 : Int32} {h : xH} {r : (Int32 × xH)}, l151_18 n o0 o1 x2 x3 x4 x5 h = some r → xEv (xTa xs) d 151 (18, [xrv o0, xrv o1, .int x2, .int x3, .int x4, .int x5], [], h) (some (.int r.1), r.2) := by
  intro n
  induction n with
  | zero => intros; rename_i hf; cases hf
  | succ n ih =>
    intro o0 o1 x2 x3 x4 x5 h r hf
    replace hf : ((if x3 ≤ x5 then j151_58 o0 o1 x2 x3 x4 x5 h else (if x4 = 0 then j151_58 o0 o1 x2 x3 x4 x5 h else (xaI h 13 o1 (x2 + x5)).bind fun v_3 => (xgR h o0 11 0).bind fun a_4 => (xaI h 13 a_4 x5).bind fun v_5 => (if v_3 = v_5 then j151_50 (l151_18 n) o0 o1 x2 x3 x4 x5 1 h else j151_50 (l151_18 n) o0 o1 x2 x3 x4 x5 0 h)))) = some r := hf
    refine ev_do i151_18 rfl ?_
    refine ev_do i151_20 rfl ?_
    refine ev_icmp (t := 58) i151_21 rfl (fun c_1 => ?_) (fun c_1 => ?_)
    · replace hf := x_pos (show x3 ≤ x5 from c_1) hf
      exact j151_58_ok hd hf
    · replace hf := x_neg (show ¬ x3 ≤ x5 from c_1) hf
      refine ev_do i151_24 rfl ?_
      refine ev_if (t := 58) i151_26 rfl (fun c_2 => ?_) (fun c_2 => ?_)
      · replace hf := x_pos (show x4 = 0 from c_2) hf
        exact j151_58_ok hd hf
      · replace hf := x_neg (show ¬ x4 = 0 from c_2) hf
        refine sh_aload (i' := 1) (n := 1) i151_29 (Or.inr ⟨rfl, by decide⟩) rfl ?_
        refine ev_do i151_30 rfl ?_
        refine ev_do i151_31 rfl ?_
        refine ev_do i151_33 rfl ?_
        obtain ⟨v_3, ev_3, hf⟩ := x_bind hf
        refine sh_aldI (tg := 13) i151_34 (Or.inl ⟨rfl, rfl⟩) ev_3 ?_
        refine sh_aload (i' := 0) (n := 1) i151_35 (Or.inr ⟨rfl, by decide⟩) rfl ?_
        obtain ⟨a_4, ea_4, hf⟩ := x_bind hf
        refine sh_getR i151_36 f151_9 ea_4 ?_
        refine ev_do i151_39 rfl ?_
        obtain ⟨v_5, ev_5, hf⟩ := x_bind hf
        refine sh_aldI (tg := 13) i151_41 (Or.inl ⟨rfl, rfl⟩) ev_5 ?_
        refine ev_icmp (t := 49) i151_42 rfl (fun c_6 => ?_) (fun c_6 => ?_)
        · replace hf := x_neg (show ¬ v_3 = v_5 from c_6) hf
          refine ev_do i151_49 rfl ?_
          exact j151_50_ok hd ih hf
        · replace hf := x_pos (show v_3 = v_5 from Decidable.byContradiction (fun h9 => c_6 h9)) hf
          refine ev_do i151_45 rfl ?_
          refine sh_goto (t := 50) i151_46 rfl ?_
          exact j151_50_ok hd ih hf
def j151_13  (o0 : Option Nat) (o1 : Option Nat) (x2 : Int32) (x3 : Int32) (s0 : Int32) (h : xH) : Option (Int32 × xH) := l151_18 xFuel o0 o1 x2 x3 s0 0 h
theorem j151_13_ok {xs : List Int32} {d : Nat} (hd : 1 ≤ d) {u4 : Value} {u5 : Value} {o0 : Option Nat} {o1 : Option Nat} {x2 : Int32} {x3 : Int32} {s0 : Int32} {h : xH} {r : (Int32 × xH)} (hu4 : u4.category = 1) (hu5 : u5.category = 1) (hf : j151_13 o0 o1 x2 x3 s0 h = some r) : xEv (xTa xs) d 151 (13, [xrv o0, xrv o1, .int x2, .int x3, u4, u5], [.int s0], h) (some (.int r.1), r.2) := by
  unfold j151_13 at hf
  refine sh_istore (i' := 4) (n := 2) i151_13 (Or.inl rfl) (xokst_of (Nat.le_of_ble_eq_true rfl) rfl) ?_
  refine ev_do i151_15 rfl ?_
  refine sh_istore (i' := 5) (n := 2) i151_16 (Or.inl rfl) (xokst_of (Nat.le_of_ble_eq_true rfl) rfl) ?_
  exact l151_18_ok hd xFuel hf
def fn151 (o0 : Option Nat) (o1 : Option Nat) (x2 : Int32) (x3 : Int32) (h : xH) : Option (Int32 × xH) := (xgI h o0 11 1).bind fun v_1 => (if x3 = v_1 then j151_13 o0 o1 x2 x3 1 h else j151_13 o0 o1 x2 x3 0 h)
theorem fn151_call {xs : List Int32} {d : Nat} (hd : 2 ≤ d) {o0 : Option Nat} {o1 : Option Nat} {x2 : Int32} {x3 : Int32} {h : xH} {r : (Int32 × xH)} (hf : fn151 o0 o1 x2 x3 h = some r) : xCall (xTa xs) d 151 [xrv o0, xrv o1, .int x2, .int x3] h (some (.int r.1), r.2) := by
  obtain ⟨d, rfl⟩ : ∃ d2, d = d2 + 1 := ⟨d - 1, by omega⟩
  replace hd : 1 ≤ d := by omega
  refine call_of2 (fl := [xrv o0, xrv o1, .int x2, .int x3]) (Ls := [xrv o0, xrv o1, .int x2, .int x3, .float 0, .float 0]) m151 (by simp [xfl, xrv_cat, xc_i, xc_j, xc_a, xc_f]) (Nat.le_of_ble_eq_true rfl) rfl ?_
  unfold fn151 at hf
  refine ev_do i151_0 rfl ?_
  refine sh_aload (i' := 0) (n := 1) i151_1 (Or.inr ⟨rfl, by decide⟩) rfl ?_
  obtain ⟨v_1, ev_1, hf⟩ := x_bind hf
  refine sh_getI i151_2 f151_146 ev_1 ?_
  refine ev_icmp (t := 12) i151_5 rfl (fun c_2 => ?_) (fun c_2 => ?_)
  · replace hf := x_neg (show ¬ x3 = v_1 from c_2) hf
    refine ev_do i151_12 rfl ?_
    exact j151_13_ok hd rfl rfl hf
  · replace hf := x_pos (show x3 = v_1 from Decidable.byContradiction (fun h9 => c_2 h9)) hf
    refine ev_do i151_8 rfl ?_
    refine sh_goto (t := 13) i151_9 rfl ?_
    exact j151_13_ok hd rfl rfl hf
end
section
def l152_95  : Nat → Option Nat → Int32 → Int32 → Int32 → Int32 → Int32 → Int32 → xH → Option (Int32 × xH)
  | 0 => fun _ _ _ _ _ _ _ _ => none
  | n + 1 => fun o0 x1 x2 x3 x4 x5 x6 h => (xgI h o0 11 1).bind fun v_1 => (if v_1 ≤ x6 then some (x5, h) else (xgR h o0 11 7).bind fun a_3 => (xgR h o0 11 0).bind fun a_4 => (xaI h 13 a_4 x6).bind fun v_5 => (xaS h 13 (fun x => x) a_3 ((10 * x5) + x6) v_5).bind fun h_6 => l152_95 n o0 x1 x2 x3 x4 x5 (x6 + 1) h_6)
theorem l152_95_ok {xs : List Int32} {d : Nat} (hd : 1 ≤ d) : ∀ (n : Nat) {o0 : Option Nat} {x1 : Int32} {x2 : Int32} {x3 : Int32} {x4 : Int32} {x5 : Int32} {x6 : Int32} {h : xH} {r : (Int32 × xH)}, l152_95 n o0 x1 x2 x3 x4 x5 x6 h = some r → xEv (xTa xs) d 152 (95, [xrv o0, .int x1, .int x2, .int x3, .int x4, .int x5, .int x6], [], h) (some (.int r.1), r.2) := by
  intro n
  induction n with
  | zero => intros; rename_i hf; cases hf
  | succ n ih =>
    intro o0 x1 x2 x3 x4 x5 x6 h r hf
    replace hf : ((xgI h o0 11 1).bind fun v_1 => (if v_1 ≤ x6 then some (x5, h) else (xgR h o0 11 7).bind fun a_3 => (xgR h o0 11 0).bind fun a_4 => (xaI h 13 a_4 x6).bind fun v_5 => (xaS h 13 (fun x => x) a_3 ((10 * x5) + x6) v_5).bind fun h_6 => l152_95 n o0 x1 x2 x3 x4 x5 (x6 + 1) h_6)) = some r := hf
    refine ev_do i152_95 rfl ?_
    refine sh_aload (i' := 0) (n := 1) i152_97 (Or.inr ⟨rfl, by decide⟩) rfl ?_
    obtain ⟨v_1, ev_1, hf⟩ := x_bind hf
    refine sh_getI i152_98 f152_146 ev_1 ?_
    refine ev_icmp (t := 130) i152_101 rfl (fun c_2 => ?_) (fun c_2 => ?_)
    · replace hf := x_pos (show v_1 ≤ x6 from c_2) hf
      refine ev_do i152_130 rfl ?_
      obtain rfl := Option.some.inj hf
      exact sh_iret i152_132 m152 rfl rfl
    · replace hf := x_neg (show ¬ v_1 ≤ x6 from c_2) hf
      refine sh_aload (i' := 0) (n := 1) i152_104 (Or.inr ⟨rfl, by decide⟩) rfl ?_
      obtain ⟨a_3, ea_3, hf⟩ := x_bind hf
      refine sh_getR i152_105 f152_26 ea_3 ?_
      refine ev_do i152_108 rfl ?_
      refine ev_do i152_110 rfl ?_
      refine ev_do i152_112 rfl ?_
      refine ev_do i152_113 rfl ?_
      refine ev_do i152_115 rfl ?_
      refine sh_aload (i' := 0) (n := 1) i152_116 (Or.inr ⟨rfl, by decide⟩) rfl ?_
      obtain ⟨a_4, ea_4, hf⟩ := x_bind hf
      refine sh_getR i152_117 f152_9 ea_4 ?_
      refine ev_do i152_120 rfl ?_
      obtain ⟨v_5, ev_5, hf⟩ := x_bind hf
      refine sh_aldI (tg := 13) i152_122 (Or.inl ⟨rfl, rfl⟩) ev_5 ?_
      obtain ⟨h_6, eh_6, hf⟩ := x_bind hf
      refine sh_ast (tg := 13) i152_123 (Or.inl ⟨rfl, rfl, rfl⟩) eh_6 ?_
      refine sh_inc (i' := 6) i152_124 rfl (xokst_of (Nat.le_of_ble_eq_true rfl) rfl) rfl ?_
      refine sh_goto (t := 95) i152_127 rfl ?_
      exact ih hf
def fn152 (o0 : Option Nat) (x1 : Int32) (x2 : Int32) (x3 : Int32) (x4 : Int32) (h : xH) : Option (Int32 × xH) := (xgI h o0 11 2).bind fun v_1 => (xgI h o0 11 2).bind fun v_2 => (xpF h o0 11 2 .int (.int (v_2 + 1))).bind fun h_3 => (xgR h_3 o0 11 3).bind fun a_4 => (xaS h_3 14 (vp_nar .boolean) a_4 v_1 x1).bind fun h_5 => (xgR h_5 o0 11 4).bind fun a_6 => (xaS h_5 13 (fun x => x) a_6 v_1 x2).bind fun h_7 => (xgR h_7 o0 11 5).bind fun a_8 => (xaS h_7 13 (fun x => x) a_8 v_1 x3).bind fun h_9 => (xgR h_9 o0 11 6).bind fun a_10 => (xaS h_9 14 (vp_nar .boolean) a_10 v_1 x4).bind fun h_11 => (xgR h_11 o0 11 9).bind fun a_12 => (xaS h_11 13 (fun x => x) a_12 v_1 0).bind fun h_13 => (xgR h_13 o0 11 13).bind fun a_14 => (xaS h_13 13 (fun x => x) a_14 v_1 (-1)).bind fun h_15 => (xgR h_15 o0 11 14).bind fun a_16 => (xaS h_15 13 (fun x => x) a_16 v_1 0).bind fun h_17 => (xgR h_17 o0 11 15).bind fun a_18 => (xaS h_17 13 (fun x => x) a_18 v_1 0).bind fun h_19 => (xgR h_19 o0 11 8).bind fun a_20 => (xgI h_19 o0 11 1).bind fun v_21 => (xaS h_19 13 (fun x => x) a_20 v_1 v_21).bind fun h_22 => l152_95 xFuel o0 x1 x2 x3 x4 v_1 0 h_22
theorem fn152_call {xs : List Int32} {d : Nat} (hd : 2 ≤ d) {o0 : Option Nat} {x1 : Int32} {x2 : Int32} {x3 : Int32} {x4 : Int32} {h : xH} {r : (Int32 × xH)} (hf : fn152 o0 x1 x2 x3 x4 h = some r) : xCall (xTa xs) d 152 [xrv o0, .int x1, .int x2, .int x3, .int x4] h (some (.int r.1), r.2) := by
  obtain ⟨d, rfl⟩ : ∃ d2, d = d2 + 1 := ⟨d - 1, by omega⟩
  replace hd : 1 ≤ d := by omega
  refine call_of2 (fl := [xrv o0, .int x1, .int x2, .int x3, .int x4]) (Ls := [xrv o0, .int x1, .int x2, .int x3, .int x4, .float 0, .float 0]) m152 (by simp [xfl, xrv_cat, xc_i, xc_j, xc_a, xc_f]) (Nat.le_of_ble_eq_true rfl) rfl ?_
  unfold fn152 at hf
  refine sh_aload (i' := 0) (n := 1) i152_0 (Or.inr ⟨rfl, by decide⟩) rfl ?_
  obtain ⟨v_1, ev_1, hf⟩ := x_bind hf
  refine sh_getI i152_1 f152_158 ev_1 ?_
  refine sh_istore (i' := 5) (n := 2) i152_4 (Or.inl rfl) (xokst_of (Nat.le_of_ble_eq_true rfl) rfl) ?_
  refine sh_aload (i' := 0) (n := 1) i152_6 (Or.inr ⟨rfl, by decide⟩) rfl ?_
  refine sh_dup i152_7 (xrv_cat (o0)) ?_
  obtain ⟨v_2, ev_2, hf⟩ := x_bind hf
  refine sh_getI i152_8 f152_158 ev_2 ?_
  refine ev_do i152_11 rfl ?_
  refine ev_do i152_12 rfl ?_
  obtain ⟨h_3, eh_3, hf⟩ := x_bind hf
  refine sh_put i152_13 f152_158 (by decide) rfl eh_3 ?_
  refine sh_aload (i' := 0) (n := 1) i152_16 (Or.inr ⟨rfl, by decide⟩) rfl ?_
  obtain ⟨a_4, ea_4, hf⟩ := x_bind hf
  refine sh_getR i152_17 f152_13 ea_4 ?_
  refine ev_do i152_20 rfl ?_
  refine ev_do i152_22 rfl ?_
  obtain ⟨h_5, eh_5, hf⟩ := x_bind hf
  refine sh_ast (tg := 14) i152_23 (Or.inr (Or.inr ⟨rfl, rfl, rfl⟩)) eh_5 ?_
  refine sh_aload (i' := 0) (n := 1) i152_24 (Or.inr ⟨rfl, by decide⟩) rfl ?_
  obtain ⟨a_6, ea_6, hf⟩ := x_bind hf
  refine sh_getR i152_25 f152_17 ea_6 ?_
  refine ev_do i152_28 rfl ?_
  refine ev_do i152_30 rfl ?_
  obtain ⟨h_7, eh_7, hf⟩ := x_bind hf
  refine sh_ast (tg := 13) i152_31 (Or.inl ⟨rfl, rfl, rfl⟩) eh_7 ?_
  refine sh_aload (i' := 0) (n := 1) i152_32 (Or.inr ⟨rfl, by decide⟩) rfl ?_
  obtain ⟨a_8, ea_8, hf⟩ := x_bind hf
  refine sh_getR i152_33 f152_20 ea_8 ?_
  refine ev_do i152_36 rfl ?_
  refine ev_do i152_38 rfl ?_
  obtain ⟨h_9, eh_9, hf⟩ := x_bind hf
  refine sh_ast (tg := 13) i152_39 (Or.inl ⟨rfl, rfl, rfl⟩) eh_9 ?_
  refine sh_aload (i' := 0) (n := 1) i152_40 (Or.inr ⟨rfl, by decide⟩) rfl ?_
  obtain ⟨a_10, ea_10, hf⟩ := x_bind hf
  refine sh_getR i152_41 f152_23 ea_10 ?_
  refine ev_do i152_44 rfl ?_
  refine ev_do i152_46 rfl ?_
  obtain ⟨h_11, eh_11, hf⟩ := x_bind hf
  refine sh_ast (tg := 14) i152_48 (Or.inr (Or.inr ⟨rfl, rfl, rfl⟩)) eh_11 ?_
  refine sh_aload (i' := 0) (n := 1) i152_49 (Or.inr ⟨rfl, by decide⟩) rfl ?_
  obtain ⟨a_12, ea_12, hf⟩ := x_bind hf
  refine sh_getR i152_50 f152_32 ea_12 ?_
  refine ev_do i152_53 rfl ?_
  refine ev_do i152_55 rfl ?_
  obtain ⟨h_13, eh_13, hf⟩ := x_bind hf
  refine sh_ast (tg := 13) i152_56 (Or.inl ⟨rfl, rfl, rfl⟩) eh_13 ?_
  refine sh_aload (i' := 0) (n := 1) i152_57 (Or.inr ⟨rfl, by decide⟩) rfl ?_
  obtain ⟨a_14, ea_14, hf⟩ := x_bind hf
  refine sh_getR i152_58 f152_44 ea_14 ?_
  refine ev_do i152_61 rfl ?_
  refine ev_do i152_63 rfl ?_
  obtain ⟨h_15, eh_15, hf⟩ := x_bind hf
  refine sh_ast (tg := 13) i152_64 (Or.inl ⟨rfl, rfl, rfl⟩) eh_15 ?_
  refine sh_aload (i' := 0) (n := 1) i152_65 (Or.inr ⟨rfl, by decide⟩) rfl ?_
  obtain ⟨a_16, ea_16, hf⟩ := x_bind hf
  refine sh_getR i152_66 f152_47 ea_16 ?_
  refine ev_do i152_69 rfl ?_
  refine ev_do i152_71 rfl ?_
  obtain ⟨h_17, eh_17, hf⟩ := x_bind hf
  refine sh_ast (tg := 13) i152_72 (Or.inl ⟨rfl, rfl, rfl⟩) eh_17 ?_
  refine sh_aload (i' := 0) (n := 1) i152_73 (Or.inr ⟨rfl, by decide⟩) rfl ?_
  obtain ⟨a_18, ea_18, hf⟩ := x_bind hf
  refine sh_getR i152_74 f152_50 ea_18 ?_
  refine ev_do i152_77 rfl ?_
  refine ev_do i152_79 rfl ?_
  obtain ⟨h_19, eh_19, hf⟩ := x_bind hf
  refine sh_ast (tg := 13) i152_80 (Or.inl ⟨rfl, rfl, rfl⟩) eh_19 ?_
  refine sh_aload (i' := 0) (n := 1) i152_81 (Or.inr ⟨rfl, by decide⟩) rfl ?_
  obtain ⟨a_20, ea_20, hf⟩ := x_bind hf
  refine sh_getR i152_82 f152_29 ea_20 ?_
  refine ev_do i152_85 rfl ?_
  refine sh_aload (i' := 0) (n := 1) i152_87 (Or.inr ⟨rfl, by decide⟩) rfl ?_
  obtain ⟨v_21, ev_21, hf⟩ := x_bind hf
  refine sh_getI i152_88 f152_146 ev_21 ?_
  obtain ⟨h_22, eh_22, hf⟩ := x_bind hf
  refine sh_ast (tg := 13) i152_91 (Or.inl ⟨rfl, rfl, rfl⟩) eh_22 ?_
  refine ev_do i152_92 rfl ?_
  refine sh_istore (i' := 6) (n := 2) i152_93 (Or.inl rfl) (xokst_of (Nat.le_of_ble_eq_true rfl) rfl) ?_
  exact l152_95_ok hd xFuel hf
end
section
def j153_114  (o0 : Option Nat) (x1 : Int32) (x2 : Int32) (x3 : Int32) (s0 : Int32) (h : xH) : Option (Int32 × xH) := (xpF h o0 11 1 .int (.int 0)).bind fun h_1 => some (s0, h_1)
theorem j153_114_ok {xs : List Int32} {d : Nat} (hd : 4 ≤ d) {o0 : Option Nat} {x1 : Int32} {x2 : Int32} {x3 : Int32} {s0 : Int32} {h : xH} {r : (Int32 × xH)} (hf : j153_114 o0 x1 x2 x3 s0 h = some r) : xEv (xTa xs) d 153 (114, [xrv o0, .int x1, .int x2, .int x3], [.int s0], h) (some (.int r.1), r.2) := by
  unfold j153_114 at hf
  refine sh_istore (i' := 3) (n := 1) i153_114 (Or.inr ⟨rfl, by decide⟩) (xokst_of (Nat.le_of_ble_eq_true rfl) rfl) ?_
  refine sh_aload (i' := 0) (n := 1) i153_115 (Or.inr ⟨rfl, by decide⟩) rfl ?_
  refine ev_do i153_116 rfl ?_
  obtain ⟨h_1, eh_1, hf⟩ := x_bind hf
  refine sh_put i153_117 f153_146 (by decide) rfl eh_1 ?_
  refine ev_do i153_120 rfl ?_
  obtain rfl := Option.some.inj hf
  exact sh_iret i153_121 m153 rfl rfl
def j153_84  (o0 : Option Nat) (x1 : Int32) (x2 : Int32) (x3 : Int32) (h : xH) : Option (Int32 × xH) := (if x2 = 0 then j153_114 o0 x1 x2 x3 (-1) h else (xgI h o0 11 2).bind fun v_2 => (if v_2 = 40 then j153_114 o0 x1 x2 x3 (-3) h else (xcv h o0 11).bind fun _ => (fn152 o0 1 (-1) x1 0 h).bind fun r_4 => j153_114 o0 x1 x2 x3 r_4.1 r_4.2))
theorem j153_84_ok {xs : List Int32} {d : Nat} (hd : 4 ≤ d) {o0 : Option Nat} {x1 : Int32} {x2 : Int32} {x3 : Int32} {h : xH} {r : (Int32 × xH)} (hf : j153_84 o0 x1 x2 x3 h = some r) : xEv (xTa xs) d 153 (84, [xrv o0, .int x1, .int x2, .int x3], [], h) (some (.int r.1), r.2) := by
  unfold j153_84 at hf
  refine ev_do i153_84 rfl ?_
  refine ev_if (t := 92) i153_85 rfl (fun c_1 => ?_) (fun c_1 => ?_)
  · replace hf := x_neg (show ¬ x2 = 0 from c_1) hf
    refine sh_aload (i' := 0) (n := 1) i153_92 (Or.inr ⟨rfl, by decide⟩) rfl ?_
    obtain ⟨v_2, ev_2, hf⟩ := x_bind hf
    refine sh_getI i153_93 f153_158 ev_2 ?_
    refine ev_do i153_96 rfl ?_
    refine ev_icmp (t := 106) i153_98 rfl (fun c_3 => ?_) (fun c_3 => ?_)
    · replace hf := x_neg (show ¬ v_2 = 40 from c_3) hf
      refine sh_aload (i' := 0) (n := 1) i153_106 (Or.inr ⟨rfl, by decide⟩) rfl ?_
      refine ev_do i153_107 rfl ?_
      refine ev_do i153_108 rfl ?_
      refine ev_do i153_109 rfl ?_
      refine ev_do i153_110 rfl ?_
      obtain ⟨_, eu_5, hf⟩ := x_bind hf
      obtain ⟨r_4, er_4, hf⟩ := x_bind hf
      refine sh_inv (as := [.int 0, .int x1, .int (-1), .int 1]) (z := (some (.int r_4.1), r_4.2)) i153_111 v153_186 (Or.inl ⟨by decide, rfl⟩) m152 rfl (Nat.le_of_ble_eq_true rfl) eu_5 (fn152_call (by omega) er_4) ?_
      exact j153_114_ok hd hf
    · replace hf := x_pos (show v_2 = 40 from Decidable.byContradiction (fun h9 => c_3 h9)) hf
      refine ev_do i153_101 rfl ?_
      refine sh_goto (t := 114) i153_103 rfl ?_
      exact j153_114_ok hd hf
  · replace hf := x_pos (show x2 = 0 from Decidable.byContradiction (fun h9 => c_1 h9)) hf
    refine ev_do i153_88 rfl ?_
    refine sh_goto (t := 114) i153_89 rfl ?_
    exact j153_114_ok hd hf
def j153_77 (k30 : Option Nat → Int32 → Int32 → Int32 → xH → Option (Int32 × xH)) (o0 : Option Nat) (x1 : Int32) (x2 : Int32) (x3 : Int32) (s0 : Int32) (h : xH) : Option (Int32 × xH) := k30 o0 x1 s0 (x3 + 1) h
theorem j153_77_ok {xs : List Int32} {d : Nat} (hd : 4 ≤ d) {k30 : Option Nat → Int32 → Int32 → Int32 → xH → Option (Int32 × xH)} (hk30 : ∀ {o0 : Option Nat} {x1 : Int32} {x2 : Int32} {x3 : Int32} {h : xH} {r : (Int32 × xH)}, k30 o0 x1 x2 x3 h = some r → xEv (xTa xs) d 153 (30, [xrv o0, .int x1, .int x2, .int x3], [], h) (some (.int r.1), r.2)) {o0 : Option Nat} {x1 : Int32} {x2 : Int32} {x3 : Int32} {s0 : Int32} {h : xH} {r : (Int32 × xH)} (hf : j153_77 k30 o0 x1 x2 x3 s0 h = some r) : xEv (xTa xs) d 153 (77, [xrv o0, .int x1, .int x2, .int x3], [.int s0], h) (some (.int r.1), r.2) := by
  unfold j153_77 at hf
  refine sh_istore (i' := 2) (n := 1) i153_77 (Or.inr ⟨rfl, by decide⟩) (xokst_of (Nat.le_of_ble_eq_true rfl) rfl) ?_
  refine sh_inc (i' := 3) i153_78 rfl (xokst_of (Nat.le_of_ble_eq_true rfl) rfl) rfl ?_
  refine sh_goto (t := 30) i153_81 rfl ?_
  exact hk30 hf
def j153_72 (k30 : Option Nat → Int32 → Int32 → Int32 → xH → Option (Int32 × xH)) (o0 : Option Nat) (x1 : Int32) (x2 : Int32) (x3 : Int32) (h : xH) : Option (Int32 × xH) := j153_77 k30 o0 x1 x2 x3 1 h
theorem j153_72_ok {xs : List Int32} {d : Nat} (hd : 4 ≤ d) {k30 : Option Nat → Int32 → Int32 → Int32 → xH → Option (Int32 × xH)} (hk30 : ∀ {o0 : Option Nat} {x1 : Int32} {x2 : Int32} {x3 : Int32} {h : xH} {r : (Int32 × xH)}, k30 o0 x1 x2 x3 h = some r → xEv (xTa xs) d 153 (30, [xrv o0, .int x1, .int x2, .int x3], [], h) (some (.int r.1), r.2)) {o0 : Option Nat} {x1 : Int32} {x2 : Int32} {x3 : Int32} {h : xH} {r : (Int32 × xH)} (hf : j153_72 k30 o0 x1 x2 x3 h = some r) : xEv (xTa xs) d 153 (72, [xrv o0, .int x1, .int x2, .int x3], [], h) (some (.int r.1), r.2) := by
  unfold j153_72 at hf
  refine ev_do i153_72 rfl ?_
  refine sh_goto (t := 77) i153_73 rfl ?_
  exact j153_77_ok hd hk30 hf
def l153_30  : Nat → Option Nat → Int32 → Int32 → Int32 → xH → Option (Int32 × xH)
  | 0 => fun _ _ _ _ _ => none
  | n + 1 => fun o0 x1 x2 x3 h => (xgI h o0 11 2).bind fun v_1 => (if v_1 ≤ x3 then j153_84 o0 x1 x2 x3 h else (if x2 = 0 then j153_84 o0 x1 x2 x3 h else (xgR h o0 11 3).bind fun a_4 => (xaI h 14 a_4 x3).bind fun v_5 => (if v_5 = 0 then j153_72 (l153_30 n) o0 x1 x2 x3 h else (xgR h o0 11 7).bind fun a_7 => (xgR h o0 11 8).bind fun a_8 => (xaI h 13 a_8 x3).bind fun v_9 => (xcv h o0 11).bind fun _ => (fn151 o0 a_7 (10 * x3) v_9 h).bind fun r_10 => (if r_10.1 = 0 then j153_72 (l153_30 n) o0 x1 x2 x3 r_10.2 else j153_77 (l153_30 n) o0 x1 x2 x3 0 r_10.2))))
theorem l153_30_ok {xs : List Int32} {d : Nat} (hd : 4 ≤ d) : ∀ (n : Nat) {o0 : Option Nat} {x1 : Int32} {x2 : Int32} {x3 : Int32} {h : xH} {r : (Int32 × xH)}, l153_30 n o0 x1 x2 x3 h = some r → xEv (xTa xs) d 153 (30, [xrv o0, .int x1, .int x2, .int x3], [], h) (some (.int r.1), r.2) := by
  intro n
  induction n with
  | zero => intros; rename_i hf; cases hf
  | succ n ih =>
    intro o0 x1 x2 x3 h r hf
    replace hf : ((xgI h o0 11 2).bind fun v_1 => (if v_1 ≤ x3 then j153_84 o0 x1 x2 x3 h else (if x2 = 0 then j153_84 o0 x1 x2 x3 h else (xgR h o0 11 3).bind fun a_4 => (xaI h 14 a_4 x3).bind fun v_5 => (if v_5 = 0 then j153_72 (l153_30 n) o0 x1 x2 x3 h else (xgR h o0 11 7).bind fun a_7 => (xgR h o0 11 8).bind fun a_8 => (xaI h 13 a_8 x3).bind fun v_9 => (xcv h o0 11).bind fun _ => (fn151 o0 a_7 (10 * x3) v_9 h).bind fun r_10 => (if r_10.1 = 0 then j153_72 (l153_30 n) o0 x1 x2 x3 r_10.2 else j153_77 (l153_30 n) o0 x1 x2 x3 0 r_10.2))))) = some r := hf
    refine ev_do i153_30 rfl ?_
    refine sh_aload (i' := 0) (n := 1) i153_31 (Or.inr ⟨rfl, by decide⟩) rfl ?_
    obtain ⟨v_1, ev_1, hf⟩ := x_bind hf
    refine sh_getI i153_32 f153_158 ev_1 ?_
    refine ev_icmp (t := 84) i153_35 rfl (fun c_2 => ?_) (fun c_2 => ?_)
    · replace hf := x_pos (show v_1 ≤ x3 from c_2) hf
      exact j153_84_ok hd hf
    · replace hf := x_neg (show ¬ v_1 ≤ x3 from c_2) hf
      refine ev_do i153_38 rfl ?_
      refine ev_if (t := 84) i153_39 rfl (fun c_3 => ?_) (fun c_3 => ?_)
      · replace hf := x_pos (show x2 = 0 from c_3) hf
        exact j153_84_ok hd hf
      · replace hf := x_neg (show ¬ x2 = 0 from c_3) hf
        refine sh_aload (i' := 0) (n := 1) i153_42 (Or.inr ⟨rfl, by decide⟩) rfl ?_
        obtain ⟨a_4, ea_4, hf⟩ := x_bind hf
        refine sh_getR i153_43 f153_13 ea_4 ?_
        refine ev_do i153_46 rfl ?_
        obtain ⟨v_5, ev_5, hf⟩ := x_bind hf
        refine sh_aldI (tg := 14) i153_47 (Or.inr (Or.inr ⟨rfl, rfl⟩)) ev_5 ?_
        refine ev_if (t := 72) i153_48 rfl (fun c_6 => ?_) (fun c_6 => ?_)
        · replace hf := x_pos (show v_5 = 0 from c_6) hf
          exact j153_72_ok hd ih hf
        · replace hf := x_neg (show ¬ v_5 = 0 from c_6) hf
          refine sh_aload (i' := 0) (n := 1) i153_51 (Or.inr ⟨rfl, by decide⟩) rfl ?_
          refine sh_aload (i' := 0) (n := 1) i153_52 (Or.inr ⟨rfl, by decide⟩) rfl ?_
          obtain ⟨a_7, ea_7, hf⟩ := x_bind hf
          refine sh_getR i153_53 f153_26 ea_7 ?_
          refine ev_do i153_56 rfl ?_
          refine ev_do i153_58 rfl ?_
          refine ev_do i153_59 rfl ?_
          refine sh_aload (i' := 0) (n := 1) i153_60 (Or.inr ⟨rfl, by decide⟩) rfl ?_
          obtain ⟨a_8, ea_8, hf⟩ := x_bind hf
          refine sh_getR i153_61 f153_29 ea_8 ?_
          refine ev_do i153_64 rfl ?_
          obtain ⟨v_9, ev_9, hf⟩ := x_bind hf
          refine sh_aldI (tg := 13) i153_65 (Or.inl ⟨rfl, rfl⟩) ev_9 ?_
          obtain ⟨_, eu_12, hf⟩ := x_bind hf
          obtain ⟨r_10, er_10, hf⟩ := x_bind hf
          refine sh_inv (as := [.int v_9, .int (10 * x3), xrv a_7]) (z := (some (.int r_10.1), r_10.2)) i153_66 v153_182 (Or.inl ⟨by decide, rfl⟩) m151 rfl (Nat.le_of_ble_eq_true rfl) eu_12 (fn151_call (by omega) er_10) ?_
          refine ev_if (t := 76) i153_69 rfl (fun c_11 => ?_) (fun c_11 => ?_)
          · replace hf := x_neg (show ¬ r_10.1 = 0 from c_11) hf
            refine ev_do i153_76 rfl ?_
            exact j153_77_ok hd ih hf
          · replace hf := x_pos (show r_10.1 = 0 from Decidable.byContradiction (fun h9 => c_11 h9)) hf
            exact j153_72_ok hd ih hf
def j153_27  (o0 : Option Nat) (x1 : Int32) (s0 : Int32) (h : xH) : Option (Int32 × xH) := l153_30 xFuel o0 x1 s0 0 h
theorem j153_27_ok {xs : List Int32} {d : Nat} (hd : 4 ≤ d) {u2 : Value} {u3 : Value} {o0 : Option Nat} {x1 : Int32} {s0 : Int32} {h : xH} {r : (Int32 × xH)} (hu2 : u2.category = 1) (hu3 : u3.category = 1) (hf : j153_27 o0 x1 s0 h = some r) : xEv (xTa xs) d 153 (27, [xrv o0, .int x1, u2, u3], [.int s0], h) (some (.int r.1), r.2) := by
  unfold j153_27 at hf
  refine sh_istore (i' := 2) (n := 1) i153_27 (Or.inr ⟨rfl, by decide⟩) (xokst_of (Nat.le_of_ble_eq_true rfl) rfl) ?_
  refine ev_do i153_28 rfl ?_
  refine sh_istore (i' := 3) (n := 1) i153_29 (Or.inr ⟨rfl, by decide⟩) (xokst_of (Nat.le_of_ble_eq_true rfl) rfl) ?_
  exact l153_30_ok hd xFuel hf
def j153_26  (o0 : Option Nat) (x1 : Int32) (h : xH) : Option (Int32 × xH) := j153_27 o0 x1 0 h
theorem j153_26_ok {xs : List Int32} {d : Nat} (hd : 4 ≤ d) {u2 : Value} {u3 : Value} {o0 : Option Nat} {x1 : Int32} {h : xH} {r : (Int32 × xH)} (hu2 : u2.category = 1) (hu3 : u3.category = 1) (hf : j153_26 o0 x1 h = some r) : xEv (xTa xs) d 153 (26, [xrv o0, .int x1, u2, u3], [], h) (some (.int r.1), r.2) := by
  unfold j153_26 at hf
  refine ev_do i153_26 rfl ?_
  exact j153_27_ok hd hu2 hu3 hf
def j153_14  (o0 : Option Nat) (x1 : Int32) (h : xH) : Option (Int32 × xH) := (xcv h o0 11).bind fun _ => (fn150 o0 1 h).bind fun r_1 => (if r_1.1 = 0 then j153_26 o0 x1 r_1.2 else j153_27 o0 x1 1 r_1.2)
theorem j153_14_ok {xs : List Int32} {d : Nat} (hd : 4 ≤ d) {u2 : Value} {u3 : Value} {o0 : Option Nat} {x1 : Int32} {h : xH} {r : (Int32 × xH)} (hu2 : u2.category = 1) (hu3 : u3.category = 1) (hf : j153_14 o0 x1 h = some r) : xEv (xTa xs) d 153 (14, [xrv o0, .int x1, u2, u3], [], h) (some (.int r.1), r.2) := by
  unfold j153_14 at hf
  refine sh_aload (i' := 0) (n := 1) i153_14 (Or.inr ⟨rfl, by decide⟩) rfl ?_
  refine ev_do i153_15 rfl ?_
  obtain ⟨_, eu_3, hf⟩ := x_bind hf
  obtain ⟨r_1, er_1, hf⟩ := x_bind hf
  refine sh_inv (as := [.int 1]) (z := (some (.int r_1.1), r_1.2)) i153_16 v153_178 (Or.inl ⟨by decide, rfl⟩) m150 rfl (Nat.le_of_ble_eq_true rfl) eu_3 (fn150_call (by omega) er_1) ?_
  refine ev_if (t := 26) i153_19 rfl (fun c_2 => ?_) (fun c_2 => ?_)
  · replace hf := x_pos (show r_1.1 = 0 from c_2) hf
    exact j153_26_ok hd hu2 hu3 hf
  · replace hf := x_neg (show ¬ r_1.1 = 0 from c_2) hf
    refine ev_do i153_22 rfl ?_
    refine sh_goto (t := 27) i153_23 rfl ?_
    exact j153_27_ok hd hu2 hu3 hf
def fn153 (o0 : Option Nat) (x1 : Int32) (h : xH) : Option (Int32 × xH) := (if x1 = (-1) then j153_14 o0 x1 h else (xcv h o0 11).bind fun _ => (fn149 o0 x1 1 h).bind fun r_2 => (if r_2.1 = 0 then j153_26 o0 x1 r_2.2 else j153_14 o0 x1 r_2.2))
theorem fn153_call {xs : List Int32} {d : Nat} (hd : 5 ≤ d) {o0 : Option Nat} {x1 : Int32} {h : xH} {r : (Int32 × xH)} (hf : fn153 o0 x1 h = some r) : xCall (xTa xs) d 153 [xrv o0, .int x1] h (some (.int r.1), r.2) := by
  obtain ⟨d, rfl⟩ : ∃ d2, d = d2 + 1 := ⟨d - 1, by omega⟩
  replace hd : 4 ≤ d := by omega
  refine call_of2 (fl := [xrv o0, .int x1]) (Ls := [xrv o0, .int x1, .float 0, .float 0]) m153 (by simp [xfl, xrv_cat, xc_i, xc_j, xc_a, xc_f]) (Nat.le_of_ble_eq_true rfl) rfl ?_
  unfold fn153 at hf
  refine ev_do i153_0 rfl ?_
  refine ev_do i153_1 rfl ?_
  refine ev_icmp (t := 14) i153_2 rfl (fun c_1 => ?_) (fun c_1 => ?_)
  · replace hf := x_pos (show x1 = (-1) from c_1) hf
    exact j153_14_ok hd rfl rfl hf
  · replace hf := x_neg (show ¬ x1 = (-1) from c_1) hf
    refine sh_aload (i' := 0) (n := 1) i153_5 (Or.inr ⟨rfl, by decide⟩) rfl ?_
    refine ev_do i153_6 rfl ?_
    refine ev_do i153_7 rfl ?_
    obtain ⟨_, eu_4, hf⟩ := x_bind hf
    obtain ⟨r_2, er_2, hf⟩ := x_bind hf
    refine sh_inv (as := [.int 1, .int x1]) (z := (some (.int r_2.1), r_2.2)) i153_8 v153_174 (Or.inl ⟨by decide, rfl⟩) m149 rfl (Nat.le_of_ble_eq_true rfl) eu_4 (fn149_call (by omega) er_2) ?_
    refine ev_if (t := 26) i153_11 rfl (fun c_3 => ?_) (fun c_3 => ?_)
    · replace hf := x_pos (show r_2.1 = 0 from c_3) hf
      exact j153_26_ok hd rfl rfl hf
    · replace hf := x_neg (show ¬ r_2.1 = 0 from c_3) hf
      exact j153_14_ok hd rfl rfl hf
end
section
def j154_125  (o0 : Option Nat) (x1 : Int32) (x2 : Int32) (x3 : Int32) (x4 : Int32) (s0 : Int32) (h : xH) : Option (Int32 × xH) := (xpF h o0 11 1 .int (.int 0)).bind fun h_1 => some (s0, h_1)
theorem j154_125_ok {xs : List Int32} {d : Nat} (hd : 4 ≤ d) {o0 : Option Nat} {x1 : Int32} {x2 : Int32} {x3 : Int32} {x4 : Int32} {s0 : Int32} {h : xH} {r : (Int32 × xH)} (hf : j154_125 o0 x1 x2 x3 x4 s0 h = some r) : xEv (xTa xs) d 154 (125, [xrv o0, .int x1, .int x2, .int x3, .int x4], [.int s0], h) (some (.int r.1), r.2) := by
  unfold j154_125 at hf
  refine sh_istore (i' := 4) (n := 2) i154_125 (Or.inl rfl) (xokst_of (Nat.le_of_ble_eq_true rfl) rfl) ?_
  refine sh_aload (i' := 0) (n := 1) i154_127 (Or.inr ⟨rfl, by decide⟩) rfl ?_
  refine ev_do i154_128 rfl ?_
  obtain ⟨h_1, eh_1, hf⟩ := x_bind hf
  refine sh_put i154_129 f154_146 (by decide) rfl eh_1 ?_
  refine ev_do i154_132 rfl ?_
  obtain rfl := Option.some.inj hf
  exact sh_iret i154_134 m154 rfl rfl
def j154_95  (o0 : Option Nat) (x1 : Int32) (x2 : Int32) (x3 : Int32) (x4 : Int32) (h : xH) : Option (Int32 × xH) := (if x3 = 0 then j154_125 o0 x1 x2 x3 x4 (-1) h else (xgI h o0 11 2).bind fun v_2 => (if v_2 = 40 then j154_125 o0 x1 x2 x3 x4 (-3) h else (xcv h o0 11).bind fun _ => (fn152 o0 0 x1 (-1) x2 h).bind fun r_4 => j154_125 o0 x1 x2 x3 x4 r_4.1 r_4.2))
theorem j154_95_ok {xs : List Int32} {d : Nat} (hd : 4 ≤ d) {o0 : Option Nat} {x1 : Int32} {x2 : Int32} {x3 : Int32} {x4 : Int32} {h : xH} {r : (Int32 × xH)} (hf : j154_95 o0 x1 x2 x3 x4 h = some r) : xEv (xTa xs) d 154 (95, [xrv o0, .int x1, .int x2, .int x3, .int x4], [], h) (some (.int r.1), r.2) := by
  unfold j154_95 at hf
  refine ev_do i154_95 rfl ?_
  refine ev_if (t := 103) i154_96 rfl (fun c_1 => ?_) (fun c_1 => ?_)
  · replace hf := x_neg (show ¬ x3 = 0 from c_1) hf
    refine sh_aload (i' := 0) (n := 1) i154_103 (Or.inr ⟨rfl, by decide⟩) rfl ?_
    obtain ⟨v_2, ev_2, hf⟩ := x_bind hf
    refine sh_getI i154_104 f154_158 ev_2 ?_
    refine ev_do i154_107 rfl ?_
    refine ev_icmp (t := 117) i154_109 rfl (fun c_3 => ?_) (fun c_3 => ?_)
    · replace hf := x_neg (show ¬ v_2 = 40 from c_3) hf
      refine sh_aload (i' := 0) (n := 1) i154_117 (Or.inr ⟨rfl, by decide⟩) rfl ?_
      refine ev_do i154_118 rfl ?_
      refine ev_do i154_119 rfl ?_
      refine ev_do i154_120 rfl ?_
      refine ev_do i154_121 rfl ?_
      obtain ⟨_, eu_5, hf⟩ := x_bind hf
      obtain ⟨r_4, er_4, hf⟩ := x_bind hf
      refine sh_inv (as := [.int x2, .int (-1), .int x1, .int 0]) (z := (some (.int r_4.1), r_4.2)) i154_122 v154_186 (Or.inl ⟨by decide, rfl⟩) m152 rfl (Nat.le_of_ble_eq_true rfl) eu_5 (fn152_call (by omega) er_4) ?_
      exact j154_125_ok hd hf
    · replace hf := x_pos (show v_2 = 40 from Decidable.byContradiction (fun h9 => c_3 h9)) hf
      refine ev_do i154_112 rfl ?_
      refine sh_goto (t := 125) i154_114 rfl ?_
      exact j154_125_ok hd hf
  · replace hf := x_pos (show x3 = 0 from Decidable.byContradiction (fun h9 => c_1 h9)) hf
    refine ev_do i154_99 rfl ?_
    refine sh_goto (t := 125) i154_100 rfl ?_
    exact j154_125_ok hd hf
def j154_88 (k26 : Option Nat → Int32 → Int32 → Int32 → Int32 → xH → Option (Int32 × xH)) (o0 : Option Nat) (x1 : Int32) (x2 : Int32) (x3 : Int32) (x4 : Int32) (s0 : Int32) (h : xH) : Option (Int32 × xH) := k26 o0 x1 x2 s0 (x4 + 1) h
theorem j154_88_ok {xs : List Int32} {d : Nat} (hd : 4 ≤ d) {k26 : Option Nat → Int32 → Int32 → Int32 → Int32 → xH → Option (Int32 × xH)} (hk26 : ∀ {o0 : Option Nat} {x1 : Int32} {x2 : Int32} {x3 : Int32} {x4 : Int32} {h : xH} {r : (Int32 × xH)}, k26 o0 x1 x2 x3 x4 h = some r → xEv (xTa xs) d 154 (26, [xrv o0, .int x1, .int x2, .int x3, .int x4], [], h) (some (.int r.1), r.2)) {o0 : Option Nat} {x1 : Int32} {x2 : Int32} {x3 : Int32} {x4 : Int32} {s0 : Int32} {h : xH} {r : (Int32 × xH)} (hf : j154_88 k26 o0 x1 x2 x3 x4 s0 h = some r) : xEv (xTa xs) d 154 (88, [xrv o0, .int x1, .int x2, .int x3, .int x4], [.int s0], h) (some (.int r.1), r.2) := by
  unfold j154_88 at hf
  refine sh_istore (i' := 3) (n := 1) i154_88 (Or.inr ⟨rfl, by decide⟩) (xokst_of (Nat.le_of_ble_eq_true rfl) rfl) ?_
  refine sh_inc (i' := 4) i154_89 rfl (xokst_of (Nat.le_of_ble_eq_true rfl) rfl) rfl ?_
  refine sh_goto (t := 26) i154_92 rfl ?_
  exact hk26 hf
def j154_83 (k26 : Option Nat → Int32 → Int32 → Int32 → Int32 → xH → Option (Int32 × xH)) (o0 : Option Nat) (x1 : Int32) (x2 : Int32) (x3 : Int32) (x4 : Int32) (h : xH) : Option (Int32 × xH) := j154_88 k26 o0 x1 x2 x3 x4 1 h
theorem j154_83_ok {xs : List Int32} {d : Nat} (hd : 4 ≤ d) {k26 : Option Nat → Int32 → Int32 → Int32 → Int32 → xH → Option (Int32 × xH)} (hk26 : ∀ {o0 : Option Nat} {x1 : Int32} {x2 : Int32} {x3 : Int32} {x4 : Int32} {h : xH} {r : (Int32 × xH)}, k26 o0 x1 x2 x3 x4 h = some r → xEv (xTa xs) d 154 (26, [xrv o0, .int x1, .int x2, .int x3, .int x4], [], h) (some (.int r.1), r.2)) {o0 : Option Nat} {x1 : Int32} {x2 : Int32} {x3 : Int32} {x4 : Int32} {h : xH} {r : (Int32 × xH)} (hf : j154_83 k26 o0 x1 x2 x3 x4 h = some r) : xEv (xTa xs) d 154 (83, [xrv o0, .int x1, .int x2, .int x3, .int x4], [], h) (some (.int r.1), r.2) := by
  unfold j154_83 at hf
  refine ev_do i154_83 rfl ?_
  refine sh_goto (t := 88) i154_84 rfl ?_
  exact j154_88_ok hd hk26 hf
def l154_26  : Nat → Option Nat → Int32 → Int32 → Int32 → Int32 → xH → Option (Int32 × xH)
  | 0 => fun _ _ _ _ _ _ => none
  | n + 1 => fun o0 x1 x2 x3 x4 h => (xgI h o0 11 2).bind fun v_1 => (if v_1 ≤ x4 then j154_95 o0 x1 x2 x3 x4 h else (if x3 = 0 then j154_95 o0 x1 x2 x3 x4 h else (xgR h o0 11 3).bind fun a_4 => (xaI h 14 a_4 x4).bind fun v_5 => (if v_5 = 0 then (xgR h o0 11 4).bind fun a_7 => (xaI h 13 a_7 x4).bind fun v_8 => (if v_8 = x1 then (xgR h o0 11 7).bind fun a_10 => (xgR h o0 11 8).bind fun a_11 => (xaI h 13 a_11 x4).bind fun v_12 => (xcv h o0 11).bind fun _ => (fn151 o0 a_10 (10 * x4) v_12 h).bind fun r_13 => (if r_13.1 = 0 then j154_83 (l154_26 n) o0 x1 x2 x3 x4 r_13.2 else j154_88 (l154_26 n) o0 x1 x2 x3 x4 0 r_13.2) else j154_83 (l154_26 n) o0 x1 x2 x3 x4 h) else j154_83 (l154_26 n) o0 x1 x2 x3 x4 h)))
theorem l154_26_ok {xs : List Int32} {d : Nat} (hd : 4 ≤ d) : ∀ (n : Nat) {o0 : Option Nat} {x1 : Int32} {x2 : Int32} {x3 : Int32} {x4 : Int32} {h : xH} {r : (Int32 × xH)}, l154_26 n o0 x1 x2 x3 x4 h = some r → xEv (xTa xs) d 154 (26, [xrv o0, .int x1, .int x2, .int x3, .int x4], [], h) (some (.int r.1), r.2) := by
  intro n
  induction n with
  | zero => intros; rename_i hf; cases hf
  | succ n ih =>
    intro o0 x1 x2 x3 x4 h r hf
    replace hf : ((xgI h o0 11 2).bind fun v_1 => (if v_1 ≤ x4 then j154_95 o0 x1 x2 x3 x4 h else (if x3 = 0 then j154_95 o0 x1 x2 x3 x4 h else (xgR h o0 11 3).bind fun a_4 => (xaI h 14 a_4 x4).bind fun v_5 => (if v_5 = 0 then (xgR h o0 11 4).bind fun a_7 => (xaI h 13 a_7 x4).bind fun v_8 => (if v_8 = x1 then (xgR h o0 11 7).bind fun a_10 => (xgR h o0 11 8).bind fun a_11 => (xaI h 13 a_11 x4).bind fun v_12 => (xcv h o0 11).bind fun _ => (fn151 o0 a_10 (10 * x4) v_12 h).bind fun r_13 => (if r_13.1 = 0 then j154_83 (l154_26 n) o0 x1 x2 x3 x4 r_13.2 else j154_88 (l154_26 n) o0 x1 x2 x3 x4 0 r_13.2) else j154_83 (l154_26 n) o0 x1 x2 x3 x4 h) else j154_83 (l154_26 n) o0 x1 x2 x3 x4 h)))) = some r := hf
    refine ev_do i154_26 rfl ?_
    refine sh_aload (i' := 0) (n := 1) i154_28 (Or.inr ⟨rfl, by decide⟩) rfl ?_
    obtain ⟨v_1, ev_1, hf⟩ := x_bind hf
    refine sh_getI i154_29 f154_158 ev_1 ?_
    refine ev_icmp (t := 95) i154_32 rfl (fun c_2 => ?_) (fun c_2 => ?_)
    · replace hf := x_pos (show v_1 ≤ x4 from c_2) hf
      exact j154_95_ok hd hf
    · replace hf := x_neg (show ¬ v_1 ≤ x4 from c_2) hf
      refine ev_do i154_35 rfl ?_
      refine ev_if (t := 95) i154_36 rfl (fun c_3 => ?_) (fun c_3 => ?_)
      · replace hf := x_pos (show x3 = 0 from c_3) hf
        exact j154_95_ok hd hf
      · replace hf := x_neg (show ¬ x3 = 0 from c_3) hf
        refine sh_aload (i' := 0) (n := 1) i154_39 (Or.inr ⟨rfl, by decide⟩) rfl ?_
        obtain ⟨a_4, ea_4, hf⟩ := x_bind hf
        refine sh_getR i154_40 f154_13 ea_4 ?_
        refine ev_do i154_43 rfl ?_
        obtain ⟨v_5, ev_5, hf⟩ := x_bind hf
        refine sh_aldI (tg := 14) i154_45 (Or.inr (Or.inr ⟨rfl, rfl⟩)) ev_5 ?_
        refine ev_if (t := 83) i154_46 rfl (fun c_6 => ?_) (fun c_6 => ?_)
        · replace hf := x_neg (show ¬ v_5 = 0 from c_6) hf
          exact j154_83_ok hd ih hf
        · replace hf := x_pos (show v_5 = 0 from Decidable.byContradiction (fun h9 => c_6 h9)) hf
          refine sh_aload (i' := 0) (n := 1) i154_49 (Or.inr ⟨rfl, by decide⟩) rfl ?_
          obtain ⟨a_7, ea_7, hf⟩ := x_bind hf
          refine sh_getR i154_50 f154_17 ea_7 ?_
          refine ev_do i154_53 rfl ?_
          obtain ⟨v_8, ev_8, hf⟩ := x_bind hf
          refine sh_aldI (tg := 13) i154_55 (Or.inl ⟨rfl, rfl⟩) ev_8 ?_
          refine ev_do i154_56 rfl ?_
          refine ev_icmp (t := 83) i154_57 rfl (fun c_9 => ?_) (fun c_9 => ?_)
          · replace hf := x_neg (show ¬ v_8 = x1 from c_9) hf
            exact j154_83_ok hd ih hf
          · replace hf := x_pos (show v_8 = x1 from Decidable.byContradiction (fun h9 => c_9 h9)) hf
            refine sh_aload (i' := 0) (n := 1) i154_60 (Or.inr ⟨rfl, by decide⟩) rfl ?_
            refine sh_aload (i' := 0) (n := 1) i154_61 (Or.inr ⟨rfl, by decide⟩) rfl ?_
            obtain ⟨a_10, ea_10, hf⟩ := x_bind hf
            refine sh_getR i154_62 f154_26 ea_10 ?_
            refine ev_do i154_65 rfl ?_
            refine ev_do i154_67 rfl ?_
            refine ev_do i154_69 rfl ?_
            refine sh_aload (i' := 0) (n := 1) i154_70 (Or.inr ⟨rfl, by decide⟩) rfl ?_
            obtain ⟨a_11, ea_11, hf⟩ := x_bind hf
            refine sh_getR i154_71 f154_29 ea_11 ?_
            refine ev_do i154_74 rfl ?_
            obtain ⟨v_12, ev_12, hf⟩ := x_bind hf
            refine sh_aldI (tg := 13) i154_76 (Or.inl ⟨rfl, rfl⟩) ev_12 ?_
            obtain ⟨_, eu_15, hf⟩ := x_bind hf
            obtain ⟨r_13, er_13, hf⟩ := x_bind hf
            refine sh_inv (as := [.int v_12, .int (10 * x4), xrv a_10]) (z := (some (.int r_13.1), r_13.2)) i154_77 v154_182 (Or.inl ⟨by decide, rfl⟩) m151 rfl (Nat.le_of_ble_eq_true rfl) eu_15 (fn151_call (by omega) er_13) ?_
            refine ev_if (t := 87) i154_80 rfl (fun c_14 => ?_) (fun c_14 => ?_)
            · replace hf := x_neg (show ¬ r_13.1 = 0 from c_14) hf
              refine ev_do i154_87 rfl ?_
              exact j154_88_ok hd ih hf
            · replace hf := x_pos (show r_13.1 = 0 from Decidable.byContradiction (fun h9 => c_14 h9)) hf
              exact j154_83_ok hd ih hf
def j154_22  (o0 : Option Nat) (x1 : Int32) (x2 : Int32) (s0 : Int32) (h : xH) : Option (Int32 × xH) := l154_26 xFuel o0 x1 x2 s0 0 h
theorem j154_22_ok {xs : List Int32} {d : Nat} (hd : 4 ≤ d) {u3 : Value} {u4 : Value} {o0 : Option Nat} {x1 : Int32} {x2 : Int32} {s0 : Int32} {h : xH} {r : (Int32 × xH)} (hu3 : u3.category = 1) (hu4 : u4.category = 1) (hf : j154_22 o0 x1 x2 s0 h = some r) : xEv (xTa xs) d 154 (22, [xrv o0, .int x1, .int x2, u3, u4], [.int s0], h) (some (.int r.1), r.2) := by
  unfold j154_22 at hf
  refine sh_istore (i' := 3) (n := 1) i154_22 (Or.inr ⟨rfl, by decide⟩) (xokst_of (Nat.le_of_ble_eq_true rfl) rfl) ?_
  refine ev_do i154_23 rfl ?_
  refine sh_istore (i' := 4) (n := 2) i154_24 (Or.inl rfl) (xokst_of (Nat.le_of_ble_eq_true rfl) rfl) ?_
  exact l154_26_ok hd xFuel hf
def j154_21  (o0 : Option Nat) (x1 : Int32) (x2 : Int32) (h : xH) : Option (Int32 × xH) := j154_22 o0 x1 x2 0 h
theorem j154_21_ok {xs : List Int32} {d : Nat} (hd : 4 ≤ d) {u3 : Value} {u4 : Value} {o0 : Option Nat} {x1 : Int32} {x2 : Int32} {h : xH} {r : (Int32 × xH)} (hu3 : u3.category = 1) (hu4 : u4.category = 1) (hf : j154_21 o0 x1 x2 h = some r) : xEv (xTa xs) d 154 (21, [xrv o0, .int x1, .int x2, u3, u4], [], h) (some (.int r.1), r.2) := by
  unfold j154_21 at hf
  refine ev_do i154_21 rfl ?_
  exact j154_22_ok hd hu3 hu4 hf
def fn154 (o0 : Option Nat) (x1 : Int32) (x2 : Int32) (h : xH) : Option (Int32 × xH) := (xcv h o0 11).bind fun _ => (fn149 o0 x1 1 h).bind fun r_1 => (if r_1.1 = 0 then j154_21 o0 x1 x2 r_1.2 else (xcv r_1.2 o0 11).bind fun _ => (fn150 o0 0 r_1.2).bind fun r_3 => (if r_3.1 = 0 then j154_21 o0 x1 x2 r_3.2 else j154_22 o0 x1 x2 1 r_3.2))
theorem fn154_call {xs : List Int32} {d : Nat} (hd : 5 ≤ d) {o0 : Option Nat} {x1 : Int32} {x2 : Int32} {h : xH} {r : (Int32 × xH)} (hf : fn154 o0 x1 x2 h = some r) : xCall (xTa xs) d 154 [xrv o0, .int x1, .int x2] h (some (.int r.1), r.2) := by
  obtain ⟨d, rfl⟩ : ∃ d2, d = d2 + 1 := ⟨d - 1, by omega⟩
  replace hd : 4 ≤ d := by omega
  refine call_of2 (fl := [xrv o0, .int x1, .int x2]) (Ls := [xrv o0, .int x1, .int x2, .float 0, .float 0]) m154 (by simp [xfl, xrv_cat, xc_i, xc_j, xc_a, xc_f]) (Nat.le_of_ble_eq_true rfl) rfl ?_
  unfold fn154 at hf
  refine sh_aload (i' := 0) (n := 1) i154_0 (Or.inr ⟨rfl, by decide⟩) rfl ?_
  refine ev_do i154_1 rfl ?_
  refine ev_do i154_2 rfl ?_
  obtain ⟨_, eu_6, hf⟩ := x_bind hf
  obtain ⟨r_1, er_1, hf⟩ := x_bind hf
  refine sh_inv (as := [.int 1, .int x1]) (z := (some (.int r_1.1), r_1.2)) i154_3 v154_174 (Or.inl ⟨by decide, rfl⟩) m149 rfl (Nat.le_of_ble_eq_true rfl) eu_6 (fn149_call (by omega) er_1) ?_
  refine ev_if (t := 21) i154_6 rfl (fun c_2 => ?_) (fun c_2 => ?_)
  · replace hf := x_pos (show r_1.1 = 0 from c_2) hf
    exact j154_21_ok hd rfl rfl hf
  · replace hf := x_neg (show ¬ r_1.1 = 0 from c_2) hf
    refine sh_aload (i' := 0) (n := 1) i154_9 (Or.inr ⟨rfl, by decide⟩) rfl ?_
    refine ev_do i154_10 rfl ?_
    obtain ⟨_, eu_5, hf⟩ := x_bind hf
    obtain ⟨r_3, er_3, hf⟩ := x_bind hf
    refine sh_inv (as := [.int 0]) (z := (some (.int r_3.1), r_3.2)) i154_11 v154_178 (Or.inl ⟨by decide, rfl⟩) m150 rfl (Nat.le_of_ble_eq_true rfl) eu_5 (fn150_call (by omega) er_3) ?_
    refine ev_if (t := 21) i154_14 rfl (fun c_4 => ?_) (fun c_4 => ?_)
    · replace hf := x_pos (show r_3.1 = 0 from c_4) hf
      exact j154_21_ok hd rfl rfl hf
    · replace hf := x_neg (show ¬ r_3.1 = 0 from c_4) hf
      refine ev_do i154_17 rfl ?_
      refine sh_goto (t := 22) i154_18 rfl ?_
      exact j154_22_ok hd rfl rfl hf
end
section
def j155_184  (o0 : Option Nat) (x1 : Int32) (x2 : Int32) (x3 : Int32) (h : xH) : Option (Int32 × xH) := (xpF h o0 11 1 .int (.int 0)).bind fun h_1 => some (x3, h_1)
theorem j155_184_ok {xs : List Int32} {d : Nat} (hd : 4 ≤ d) {u4 : Value} {u5 : Value} {o0 : Option Nat} {x1 : Int32} {x2 : Int32} {x3 : Int32} {h : xH} {r : (Int32 × xH)} (hu4 : u4.category = 1) (hu5 : u5.category = 1) (hf : j155_184 o0 x1 x2 x3 h = some r) : xEv (xTa xs) d 155 (184, [xrv o0, .int x1, .int x2, .int x3, u4, u5], [], h) (some (.int r.1), r.2) := by
  unfold j155_184 at hf
  refine sh_aload (i' := 0) (n := 1) i155_184 (Or.inr ⟨rfl, by decide⟩) rfl ?_
  refine ev_do i155_185 rfl ?_
  obtain ⟨h_1, eh_1, hf⟩ := x_bind hf
  refine sh_put i155_186 f155_146 (by decide) rfl eh_1 ?_
  refine ev_do i155_189 rfl ?_
  obtain rfl := Option.some.inj hf
  exact sh_iret i155_190 m155 rfl rfl
def l155_132  : Nat → Option Nat → Int32 → Int32 → Int32 → Int32 → Int32 → xH → Option (Int32 × xH)
  | 0 => fun _ _ _ _ _ _ _ => none
  | n + 1 => fun o0 x1 x2 x3 x4 x5 h => (xgI h o0 11 1).bind fun v_1 => (if v_1 ≤ x5 then (xgR h o0 11 9).bind fun a_3 => (xaI h 13 a_3 x1).bind fun v_4 => (xaS h 13 (fun x => x) a_3 x1 (v_4 + 1)).bind fun h_5 => (xgR h_5 o0 11 9).bind fun a_6 => (xaI h_5 13 a_6 x1).bind fun v_7 => j155_184 o0 x1 x2 v_7 h_5 else (xgR h o0 11 10).bind fun a_8 => (xgR h o0 11 0).bind fun a_9 => (xaI h 13 a_9 x5).bind fun v_10 => (xaS h 13 (fun x => x) a_8 ((10 * x4) + x5) v_10).bind fun h_11 => l155_132 n o0 x1 x2 x3 x4 (x5 + 1) h_11)
theorem l155_132_ok {xs : List Int32} {d : Nat} (hd : 4 ≤ d) : ∀ (n : Nat) {o0 : Option Nat} {x1 : Int32} {x2 : Int32} {x3 : Int32} {x4 : Int32} {x5 : Int32} {h : xH} {r : (Int32 × xH)}, l155_132 n o0 x1 x2 x3 x4 x5 h = some r → xEv (xTa xs) d 155 (132, [xrv o0, .int x1, .int x2, .int x3, .int x4, .int x5], [], h) (some (.int r.1), r.2) := by
  intro n
  induction n with
  | zero => intros; rename_i hf; cases hf
  | succ n ih =>
    intro o0 x1 x2 x3 x4 x5 h r hf
    replace hf : ((xgI h o0 11 1).bind fun v_1 => (if v_1 ≤ x5 then (xgR h o0 11 9).bind fun a_3 => (xaI h 13 a_3 x1).bind fun v_4 => (xaS h 13 (fun x => x) a_3 x1 (v_4 + 1)).bind fun h_5 => (xgR h_5 o0 11 9).bind fun a_6 => (xaI h_5 13 a_6 x1).bind fun v_7 => j155_184 o0 x1 x2 v_7 h_5 else (xgR h o0 11 10).bind fun a_8 => (xgR h o0 11 0).bind fun a_9 => (xaI h 13 a_9 x5).bind fun v_10 => (xaS h 13 (fun x => x) a_8 ((10 * x4) + x5) v_10).bind fun h_11 => l155_132 n o0 x1 x2 x3 x4 (x5 + 1) h_11)) = some r := hf
    refine ev_do i155_132 rfl ?_
    refine sh_aload (i' := 0) (n := 1) i155_134 (Or.inr ⟨rfl, by decide⟩) rfl ?_
    obtain ⟨v_1, ev_1, hf⟩ := x_bind hf
    refine sh_getI i155_135 f155_146 ev_1 ?_
    refine ev_icmp (t := 167) i155_138 rfl (fun c_2 => ?_) (fun c_2 => ?_)
    · replace hf := x_pos (show v_1 ≤ x5 from c_2) hf
      refine sh_aload (i' := 0) (n := 1) i155_167 (Or.inr ⟨rfl, by decide⟩) rfl ?_
      obtain ⟨a_3, ea_3, hf⟩ := x_bind hf
      refine sh_getR i155_168 f155_32 ea_3 ?_
      refine ev_do i155_171 rfl ?_
      refine sh_dup2 i155_172 rfl (xrv_cat (a_3)) ?_
      obtain ⟨v_4, ev_4, hf⟩ := x_bind hf
      refine sh_aldI (tg := 13) i155_173 (Or.inl ⟨rfl, rfl⟩) ev_4 ?_
      refine ev_do i155_174 rfl ?_
      refine ev_do i155_175 rfl ?_
      obtain ⟨h_5, eh_5, hf⟩ := x_bind hf
      refine sh_ast (tg := 13) i155_176 (Or.inl ⟨rfl, rfl, rfl⟩) eh_5 ?_
      refine sh_aload (i' := 0) (n := 1) i155_177 (Or.inr ⟨rfl, by decide⟩) rfl ?_
      obtain ⟨a_6, ea_6, hf⟩ := x_bind hf
      refine sh_getR i155_178 f155_32 ea_6 ?_
      refine ev_do i155_181 rfl ?_
      obtain ⟨v_7, ev_7, hf⟩ := x_bind hf
      refine sh_aldI (tg := 13) i155_182 (Or.inl ⟨rfl, rfl⟩) ev_7 ?_
      refine sh_istore (i' := 3) (n := 1) i155_183 (Or.inr ⟨rfl, by decide⟩) (xokst_of (Nat.le_of_ble_eq_true rfl) rfl) ?_
      exact j155_184_ok hd rfl rfl hf
    · replace hf := x_neg (show ¬ v_1 ≤ x5 from c_2) hf
      refine sh_aload (i' := 0) (n := 1) i155_141 (Or.inr ⟨rfl, by decide⟩) rfl ?_
      obtain ⟨a_8, ea_8, hf⟩ := x_bind hf
      refine sh_getR i155_142 f155_35 ea_8 ?_
      refine ev_do i155_145 rfl ?_
      refine ev_do i155_147 rfl ?_
      refine ev_do i155_149 rfl ?_
      refine ev_do i155_150 rfl ?_
      refine ev_do i155_152 rfl ?_
      refine sh_aload (i' := 0) (n := 1) i155_153 (Or.inr ⟨rfl, by decide⟩) rfl ?_
      obtain ⟨a_9, ea_9, hf⟩ := x_bind hf
      refine sh_getR i155_154 f155_9 ea_9 ?_
      refine ev_do i155_157 rfl ?_
      obtain ⟨v_10, ev_10, hf⟩ := x_bind hf
      refine sh_aldI (tg := 13) i155_159 (Or.inl ⟨rfl, rfl⟩) ev_10 ?_
      obtain ⟨h_11, eh_11, hf⟩ := x_bind hf
      refine sh_ast (tg := 13) i155_160 (Or.inl ⟨rfl, rfl, rfl⟩) eh_11 ?_
      refine sh_inc (i' := 5) i155_161 rfl (xokst_of (Nat.le_of_ble_eq_true rfl) rfl) rfl ?_
      refine sh_goto (t := 132) i155_164 rfl ?_
      exact ih hf
def j155_91  (o0 : Option Nat) (x1 : Int32) (x2 : Int32) (x3 : Int32) (s0 : Int32) (h : xH) : Option (Int32 × xH) := (if x2 = 0 then j155_184 o0 x1 x2 s0 h else (xgR h o0 11 9).bind fun a_2 => (xaI h 13 a_2 x1).bind fun v_3 => (if 4 ≤ v_3 then j155_184 o0 x1 x2 s0 h else (xgR h o0 11 9).bind fun a_5 => (xaI h 13 a_5 x1).bind fun v_6 => (xgR h o0 11 11).bind fun a_7 => (xgI h o0 11 1).bind fun v_8 => (xaS h 13 (fun x => x) a_7 ((4 * x1) + v_6) v_8).bind fun h_9 => l155_132 xFuel o0 x1 x2 s0 ((4 * x1) + v_6) 0 h_9))
theorem j155_91_ok {xs : List Int32} {d : Nat} (hd : 4 ≤ d) {u4 : Value} {u5 : Value} {o0 : Option Nat} {x1 : Int32} {x2 : Int32} {x3 : Int32} {s0 : Int32} {h : xH} {r : (Int32 × xH)} (hu4 : u4.category = 1) (hu5 : u5.category = 1) (hf : j155_91 o0 x1 x2 x3 s0 h = some r) : xEv (xTa xs) d 155 (91, [xrv o0, .int x1, .int x2, .int x3, u4, u5], [.int s0], h) (some (.int r.1), r.2) := by
  unfold j155_91 at hf
  refine sh_istore (i' := 3) (n := 1) i155_91 (Or.inr ⟨rfl, by decide⟩) (xokst_of (Nat.le_of_ble_eq_true rfl) rfl) ?_
  refine ev_do i155_92 rfl ?_
  refine ev_if (t := 184) i155_93 rfl (fun c_1 => ?_) (fun c_1 => ?_)
  · replace hf := x_pos (show x2 = 0 from c_1) hf
    exact j155_184_ok hd hu4 hu5 hf
  · replace hf := x_neg (show ¬ x2 = 0 from c_1) hf
    refine sh_aload (i' := 0) (n := 1) i155_96 (Or.inr ⟨rfl, by decide⟩) rfl ?_
    obtain ⟨a_2, ea_2, hf⟩ := x_bind hf
    refine sh_getR i155_97 f155_32 ea_2 ?_
    refine ev_do i155_100 rfl ?_
    obtain ⟨v_3, ev_3, hf⟩ := x_bind hf
    refine sh_aldI (tg := 13) i155_101 (Or.inl ⟨rfl, rfl⟩) ev_3 ?_
    refine ev_do i155_102 rfl ?_
    refine ev_icmp (t := 184) i155_103 rfl (fun c_4 => ?_) (fun c_4 => ?_)
    · replace hf := x_pos (show 4 ≤ v_3 from c_4) hf
      exact j155_184_ok hd hu4 hu5 hf
    · replace hf := x_neg (show ¬ 4 ≤ v_3 from c_4) hf
      refine ev_do i155_106 rfl ?_
      refine ev_do i155_107 rfl ?_
      refine ev_do i155_108 rfl ?_
      refine sh_aload (i' := 0) (n := 1) i155_109 (Or.inr ⟨rfl, by decide⟩) rfl ?_
      obtain ⟨a_5, ea_5, hf⟩ := x_bind hf
      refine sh_getR i155_110 f155_32 ea_5 ?_
      refine ev_do i155_113 rfl ?_
      obtain ⟨v_6, ev_6, hf⟩ := x_bind hf
      refine sh_aldI (tg := 13) i155_114 (Or.inl ⟨rfl, rfl⟩) ev_6 ?_
      refine ev_do i155_115 rfl ?_
      refine sh_istore (i' := 4) (n := 2) i155_116 (Or.inl rfl) (xokst_of (Nat.le_of_ble_eq_true rfl) rfl) ?_
      refine sh_aload (i' := 0) (n := 1) i155_118 (Or.inr ⟨rfl, by decide⟩) rfl ?_
      obtain ⟨a_7, ea_7, hf⟩ := x_bind hf
      refine sh_getR i155_119 f155_38 ea_7 ?_
      refine ev_do i155_122 rfl ?_
      refine sh_aload (i' := 0) (n := 1) i155_124 (Or.inr ⟨rfl, by decide⟩) rfl ?_
      obtain ⟨v_8, ev_8, hf⟩ := x_bind hf
      refine sh_getI i155_125 f155_146 ev_8 ?_
      obtain ⟨h_9, eh_9, hf⟩ := x_bind hf
      refine sh_ast (tg := 13) i155_128 (Or.inl ⟨rfl, rfl, rfl⟩) eh_9 ?_
      refine ev_do i155_129 rfl ?_
      refine sh_istore (i' := 5) (n := 2) i155_130 (Or.inl rfl) (xokst_of (Nat.le_of_ble_eq_true rfl) rfl) ?_
      exact l155_132_ok hd xFuel hf
def j155_81  (o0 : Option Nat) (x1 : Int32) (x2 : Int32) (x3 : Int32) (h : xH) : Option (Int32 × xH) := (if x2 = 0 then j155_91 o0 x1 x2 x3 (-1) h else j155_91 o0 x1 x2 x3 (-3) h)
theorem j155_81_ok {xs : List Int32} {d : Nat} (hd : 4 ≤ d) {u4 : Value} {u5 : Value} {o0 : Option Nat} {x1 : Int32} {x2 : Int32} {x3 : Int32} {h : xH} {r : (Int32 × xH)} (hu4 : u4.category = 1) (hu5 : u5.category = 1) (hf : j155_81 o0 x1 x2 x3 h = some r) : xEv (xTa xs) d 155 (81, [xrv o0, .int x1, .int x2, .int x3, u4, u5], [], h) (some (.int r.1), r.2) := by
  unfold j155_81 at hf
  refine ev_do i155_81 rfl ?_
  refine ev_if (t := 90) i155_82 rfl (fun c_1 => ?_) (fun c_1 => ?_)
  · replace hf := x_pos (show x2 = 0 from c_1) hf
    refine ev_do i155_90 rfl ?_
    exact j155_91_ok hd hu4 hu5 hf
  · replace hf := x_neg (show ¬ x2 = 0 from c_1) hf
    refine ev_do i155_85 rfl ?_
    refine sh_goto (t := 91) i155_87 rfl ?_
    exact j155_91_ok hd hu4 hu5 hf
def j155_74 (k25 : Option Nat → Int32 → Int32 → Int32 → xH → Option (Int32 × xH)) (o0 : Option Nat) (x1 : Int32) (x2 : Int32) (x3 : Int32) (x4 : Int32) (s0 : Int32) (h : xH) : Option (Int32 × xH) := k25 o0 x1 s0 (x3 + 1) h
theorem j155_74_ok {xs : List Int32} {d : Nat} (hd : 4 ≤ d) {k25 : Option Nat → Int32 → Int32 → Int32 → xH → Option (Int32 × xH)} (hk25 : ∀ {u4 : Value} {u5 : Value} {o0 : Option Nat} {x1 : Int32} {x2 : Int32} {x3 : Int32} {h : xH} {r : (Int32 × xH)}, u4.category = 1 → u5.category = 1 → k25 o0 x1 x2 x3 h = some r → xEv (xTa xs) d 155 (25, [xrv o0, .int x1, .int x2, .int x3, u4, u5], [], h) (some (.int r.1), r.2)) {u5 : Value} {o0 : Option Nat} {x1 : Int32} {x2 : Int32} {x3 : Int32} {x4 : Int32} {s0 : Int32} {h : xH} {r : (Int32 × xH)} (hu5 : u5.category = 1) (hf : j155_74 k25 o0 x1 x2 x3 x4 s0 h = some r) : xEv (xTa xs) d 155 (74, [xrv o0, .int x1, .int x2, .int x3, .int x4, u5], [.int s0], h) (some (.int r.1), r.2) := by
  unfold j155_74 at hf
  refine sh_istore (i' := 2) (n := 1) i155_74 (Or.inr ⟨rfl, by decide⟩) (xokst_of (Nat.le_of_ble_eq_true rfl) rfl) ?_
  refine sh_inc (i' := 3) i155_75 rfl (xokst_of (Nat.le_of_ble_eq_true rfl) rfl) rfl ?_
  refine sh_goto (t := 25) i155_78 rfl ?_
  exact hk25 rfl hu5 hf
def l155_25  : Nat → Option Nat → Int32 → Int32 → Int32 → xH → Option (Int32 × xH)
  | 0 => fun _ _ _ _ _ => none
  | n + 1 => fun o0 x1 x2 x3 h => (if x2 = 0 then j155_81 o0 x1 x2 x3 h else (xgR h o0 11 9).bind fun a_2 => (xaI h 13 a_2 x1).bind fun v_3 => (if v_3 ≤ x3 then j155_81 o0 x1 x2 x3 h else (xgR h o0 11 10).bind fun a_5 => (xgR h o0 11 11).bind fun a_6 => (xaI h 13 a_6 ((4 * x1) + x3)).bind fun v_7 => (xcv h o0 11).bind fun _ => (fn151 o0 a_5 (10 * ((4 * x1) + x3)) v_7 h).bind fun r_8 => (if r_8.1 = 0 then j155_74 (l155_25 n) o0 x1 x2 x3 ((4 * x1) + x3) 1 r_8.2 else j155_74 (l155_25 n) o0 x1 x2 x3 ((4 * x1) + x3) 0 r_8.2)))
theorem l155_25_ok {xs : List Int32} {d : Nat} (hd : 4 ≤ d) : ∀ (n : Nat) {u4 : Value} {u5 : Value} {o0 : Option Nat} {x1 : Int32} {x2 : Int32} {x3 : Int32} {h : xH} {r : (Int32 × xH)} (hu4 : u4.category = 1) (hu5 : u5.category = 1), l155_25 n o0 x1 x2 x3 h = some r → xEv (xTa xs) d 155 (25, [xrv o0, .int x1, .int x2, .int x3, u4, u5], [], h) (some (.int r.1), r.2) := by
  intro n
  induction n with
  | zero => intros; rename_i hf; cases hf
  | succ n ih =>
    intro u4 u5 o0 x1 x2 x3 h r hu4 hu5 hf
    replace hf : ((if x2 = 0 then j155_81 o0 x1 x2 x3 h else (xgR h o0 11 9).bind fun a_2 => (xaI h 13 a_2 x1).bind fun v_3 => (if v_3 ≤ x3 then j155_81 o0 x1 x2 x3 h else (xgR h o0 11 10).bind fun a_5 => (xgR h o0 11 11).bind fun a_6 => (xaI h 13 a_6 ((4 * x1) + x3)).bind fun v_7 => (xcv h o0 11).bind fun _ => (fn151 o0 a_5 (10 * ((4 * x1) + x3)) v_7 h).bind fun r_8 => (if r_8.1 = 0 then j155_74 (l155_25 n) o0 x1 x2 x3 ((4 * x1) + x3) 1 r_8.2 else j155_74 (l155_25 n) o0 x1 x2 x3 ((4 * x1) + x3) 0 r_8.2)))) = some r := hf
    refine ev_do i155_25 rfl ?_
    refine ev_if (t := 81) i155_26 rfl (fun c_1 => ?_) (fun c_1 => ?_)
    · replace hf := x_pos (show x2 = 0 from c_1) hf
      exact j155_81_ok hd hu4 hu5 hf
    · replace hf := x_neg (show ¬ x2 = 0 from c_1) hf
      refine ev_do i155_29 rfl ?_
      refine sh_aload (i' := 0) (n := 1) i155_30 (Or.inr ⟨rfl, by decide⟩) rfl ?_
      obtain ⟨a_2, ea_2, hf⟩ := x_bind hf
      refine sh_getR i155_31 f155_32 ea_2 ?_
      refine ev_do i155_34 rfl ?_
      obtain ⟨v_3, ev_3, hf⟩ := x_bind hf
      refine sh_aldI (tg := 13) i155_35 (Or.inl ⟨rfl, rfl⟩) ev_3 ?_
      refine ev_icmp (t := 81) i155_36 rfl (fun c_4 => ?_) (fun c_4 => ?_)
      · replace hf := x_pos (show v_3 ≤ x3 from c_4) hf
        exact j155_81_ok hd hu4 hu5 hf
      · replace hf := x_neg (show ¬ v_3 ≤ x3 from c_4) hf
        refine ev_do i155_39 rfl ?_
        refine ev_do i155_40 rfl ?_
        refine ev_do i155_41 rfl ?_
        refine ev_do i155_42 rfl ?_
        refine ev_do i155_43 rfl ?_
        refine sh_istore (i' := 4) (n := 2) i155_44 (Or.inl rfl) (xokst_of (Nat.le_of_ble_eq_true rfl) rfl) ?_
        refine sh_aload (i' := 0) (n := 1) i155_46 (Or.inr ⟨rfl, by decide⟩) rfl ?_
        refine sh_aload (i' := 0) (n := 1) i155_47 (Or.inr ⟨rfl, by decide⟩) rfl ?_
        obtain ⟨a_5, ea_5, hf⟩ := x_bind hf
        refine sh_getR i155_48 f155_35 ea_5 ?_
        refine ev_do i155_51 rfl ?_
        refine ev_do i155_53 rfl ?_
        refine ev_do i155_55 rfl ?_
        refine sh_aload (i' := 0) (n := 1) i155_56 (Or.inr ⟨rfl, by decide⟩) rfl ?_
        obtain ⟨a_6, ea_6, hf⟩ := x_bind hf
        refine sh_getR i155_57 f155_38 ea_6 ?_
        refine ev_do i155_60 rfl ?_
        obtain ⟨v_7, ev_7, hf⟩ := x_bind hf
        refine sh_aldI (tg := 13) i155_62 (Or.inl ⟨rfl, rfl⟩) ev_7 ?_
        obtain ⟨_, eu_10, hf⟩ := x_bind hf
        obtain ⟨r_8, er_8, hf⟩ := x_bind hf
        refine sh_inv (as := [.int v_7, .int (10 * ((4 * x1) + x3)), xrv a_5]) (z := (some (.int r_8.1), r_8.2)) i155_63 v155_182 (Or.inl ⟨by decide, rfl⟩) m151 rfl (Nat.le_of_ble_eq_true rfl) eu_10 (fn151_call (by omega) er_8) ?_
        refine ev_if (t := 73) i155_66 rfl (fun c_9 => ?_) (fun c_9 => ?_)
        · replace hf := x_neg (show ¬ r_8.1 = 0 from c_9) hf
          refine ev_do i155_73 rfl ?_
          exact j155_74_ok hd ih hu5 hf
        · replace hf := x_pos (show r_8.1 = 0 from Decidable.byContradiction (fun h9 => c_9 h9)) hf
          refine ev_do i155_69 rfl ?_
          refine sh_goto (t := 74) i155_70 rfl ?_
          exact j155_74_ok hd ih hu5 hf
def j155_22  (o0 : Option Nat) (x1 : Int32) (s0 : Int32) (h : xH) : Option (Int32 × xH) := l155_25 xFuel o0 x1 s0 0 h
theorem j155_22_ok {xs : List Int32} {d : Nat} (hd : 4 ≤ d) {u2 : Value} {u3 : Value} {u4 : Value} {u5 : Value} {o0 : Option Nat} {x1 : Int32} {s0 : Int32} {h : xH} {r : (Int32 × xH)} (hu2 : u2.category = 1) (hu3 : u3.category = 1) (hu4 : u4.category = 1) (hu5 : u5.category = 1) (hf : j155_22 o0 x1 s0 h = some r) : xEv (xTa xs) d 155 (22, [xrv o0, .int x1, u2, u3, u4, u5], [.int s0], h) (some (.int r.1), r.2) := by
  unfold j155_22 at hf
  refine sh_istore (i' := 2) (n := 1) i155_22 (Or.inr ⟨rfl, by decide⟩) (xokst_of (Nat.le_of_ble_eq_true rfl) rfl) ?_
  refine ev_do i155_23 rfl ?_
  refine sh_istore (i' := 3) (n := 1) i155_24 (Or.inr ⟨rfl, by decide⟩) (xokst_of (Nat.le_of_ble_eq_true rfl) rfl) ?_
  exact l155_25_ok hd xFuel hu4 hu5 hf
def j155_21  (o0 : Option Nat) (x1 : Int32) (h : xH) : Option (Int32 × xH) := j155_22 o0 x1 0 h
theorem j155_21_ok {xs : List Int32} {d : Nat} (hd : 4 ≤ d) {u2 : Value} {u3 : Value} {u4 : Value} {u5 : Value} {o0 : Option Nat} {x1 : Int32} {h : xH} {r : (Int32 × xH)} (hu2 : u2.category = 1) (hu3 : u3.category = 1) (hu4 : u4.category = 1) (hu5 : u5.category = 1) (hf : j155_21 o0 x1 h = some r) : xEv (xTa xs) d 155 (21, [xrv o0, .int x1, u2, u3, u4, u5], [], h) (some (.int r.1), r.2) := by
  unfold j155_21 at hf
  refine ev_do i155_21 rfl ?_
  exact j155_22_ok hd hu2 hu3 hu4 hu5 hf
def fn155 (o0 : Option Nat) (x1 : Int32) (h : xH) : Option (Int32 × xH) := (xcv h o0 11).bind fun _ => (fn149 o0 x1 0 h).bind fun r_1 => (if r_1.1 = 0 then j155_21 o0 x1 r_1.2 else (xcv r_1.2 o0 11).bind fun _ => (fn150 o0 0 r_1.2).bind fun r_3 => (if r_3.1 = 0 then j155_21 o0 x1 r_3.2 else j155_22 o0 x1 1 r_3.2))
theorem fn155_call {xs : List Int32} {d : Nat} (hd : 5 ≤ d) {o0 : Option Nat} {x1 : Int32} {h : xH} {r : (Int32 × xH)} (hf : fn155 o0 x1 h = some r) : xCall (xTa xs) d 155 [xrv o0, .int x1] h (some (.int r.1), r.2) := by
  obtain ⟨d, rfl⟩ : ∃ d2, d = d2 + 1 := ⟨d - 1, by omega⟩
  replace hd : 4 ≤ d := by omega
  refine call_of2 (fl := [xrv o0, .int x1]) (Ls := [xrv o0, .int x1, .float 0, .float 0, .float 0, .float 0]) m155 (by simp [xfl, xrv_cat, xc_i, xc_j, xc_a, xc_f]) (Nat.le_of_ble_eq_true rfl) rfl ?_
  unfold fn155 at hf
  refine sh_aload (i' := 0) (n := 1) i155_0 (Or.inr ⟨rfl, by decide⟩) rfl ?_
  refine ev_do i155_1 rfl ?_
  refine ev_do i155_2 rfl ?_
  obtain ⟨_, eu_6, hf⟩ := x_bind hf
  obtain ⟨r_1, er_1, hf⟩ := x_bind hf
  refine sh_inv (as := [.int 0, .int x1]) (z := (some (.int r_1.1), r_1.2)) i155_3 v155_174 (Or.inl ⟨by decide, rfl⟩) m149 rfl (Nat.le_of_ble_eq_true rfl) eu_6 (fn149_call (by omega) er_1) ?_
  refine ev_if (t := 21) i155_6 rfl (fun c_2 => ?_) (fun c_2 => ?_)
  · replace hf := x_pos (show r_1.1 = 0 from c_2) hf
    exact j155_21_ok hd rfl rfl rfl rfl hf
  · replace hf := x_neg (show ¬ r_1.1 = 0 from c_2) hf
    refine sh_aload (i' := 0) (n := 1) i155_9 (Or.inr ⟨rfl, by decide⟩) rfl ?_
    refine ev_do i155_10 rfl ?_
    obtain ⟨_, eu_5, hf⟩ := x_bind hf
    obtain ⟨r_3, er_3, hf⟩ := x_bind hf
    refine sh_inv (as := [.int 0]) (z := (some (.int r_3.1), r_3.2)) i155_11 v155_178 (Or.inl ⟨by decide, rfl⟩) m150 rfl (Nat.le_of_ble_eq_true rfl) eu_5 (fn150_call (by omega) er_3) ?_
    refine ev_if (t := 21) i155_14 rfl (fun c_4 => ?_) (fun c_4 => ?_)
    · replace hf := x_pos (show r_3.1 = 0 from c_4) hf
      exact j155_21_ok hd rfl rfl rfl rfl hf
    · replace hf := x_neg (show ¬ r_3.1 = 0 from c_4) hf
      refine ev_do i155_17 rfl ?_
      refine sh_goto (t := 22) i155_18 rfl ?_
      exact j155_22_ok hd rfl rfl rfl rfl hf
end
