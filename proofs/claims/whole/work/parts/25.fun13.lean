section
def j158_67  (o0 : Option Nat) (x1 : Int32) (o2 : Option Nat) (x3 : Int32) (x4 : Int32) (x5 : Int32) (x6 : Int32) (h : xH) : Option (Int32 × xH) := (if x5 &&& 1 = x5 then some (x5, h) else none)
theorem j158_67_ok {xs : List Int32} {d : Nat} (hd : 1 ≤ d) {o0 : Option Nat} {x1 : Int32} {o2 : Option Nat} {x3 : Int32} {x4 : Int32} {x5 : Int32} {x6 : Int32} {h : xH} {r : (Int32 × xH)} (hf : j158_67 o0 x1 o2 x3 x4 x5 x6 h = some r) : xEv (xTa xs) d 158 (67, [xrv o0, .int x1, xrv o2, .int x3, .int x4, .int x5, .int x6], [], h) (some (.int r.1), r.2) := by
  unfold j158_67 at hf
  refine ev_do i158_67 rfl ?_
  by_cases c_1 : x5 &&& 1 = x5
  · replace hf := x_pos c_1 hf
    obtain rfl := Option.some.inj hf
    exact sh_iret i158_69 m158 rfl (congrArg Value.int c_1)
  · replace hf := x_neg c_1 hf
    cases hf
def j158_59 (k21 : Option Nat → Int32 → Option Nat → Int32 → Int32 → Int32 → Int32 → xH → Option (Int32 × xH)) (o0 : Option Nat) (x1 : Int32) (o2 : Option Nat) (x3 : Int32) (x4 : Int32) (x5 : Int32) (x6 : Int32) (s0 : Int32) (h : xH) : Option (Int32 × xH) := k21 o0 x1 o2 x3 x4 s0 (x6 + 1) h
theorem j158_59_ok {xs : List Int32} {d : Nat} (hd : 1 ≤ d) {k21 : Option Nat → Int32 → Option Nat → Int32 → Int32 → Int32 → Int32 → xH → Option (Int32 × xH)} (hk21 : ∀ {o0 : Option Nat} {x1 : Int32} {o2 : Option Nat} {x3 : Int32} {x4 : Int32} {x5 : Int32} {x6 : Int32} {h : xH} {r : (Int32 × xH)}, k21 o0 x1 o2 x3 x4 x5 x6 h = some r → xEv (xTa xs) d 158 (21, [xrv o0, .int x1, xrv o2, .int x3, .int x4, .int x5, .int x6], [], h) (some (.int r.1), r.2)) {o0 : Option Nat} {x1 : Int32} {o2 : Option Nat} {x3 : Int32} {x4 : Int32} {x5 : Int32} {x6 : Int32} {s0 : Int32} {h : xH} {r : (Int32 × xH)} (hf : j158_59 k21 o0 x1 o2 x3 x4 x5 x6 s0 h = some r) : xEv (xTa xs) d 158 (59, [xrv o0, .int x1, xrv o2, .int x3, .int x4, .int x5, .int x6], [.int s0], h) (some (.int r.1), r.2) := by
  unfold j158_59 at hf
  refine sh_istore (i' := 5) (n := 2) i158_59 (Or.inl rfl) (xokst_of (Nat.le_of_ble_eq_true rfl) rfl) ?_
  refine sh_inc (i' := 6) i158_61 rfl (xokst_of (Nat.le_of_ble_eq_true rfl) rfl) rfl ?_
  refine sh_goto (t := 21) i158_64 rfl ?_
  exact hk21 hf
def l158_21  : Nat → Option Nat → Int32 → Option Nat → Int32 → Int32 → Int32 → Int32 → xH → Option (Int32 × xH)
  | 0 => fun _ _ _ _ _ _ _ _ => none
  | n + 1 => fun o0 x1 o2 x3 x4 x5 x6 h => (if x4 ≤ x6 then j158_67 o0 x1 o2 x3 x4 x5 x6 h else (if x5 = 0 then j158_67 o0 x1 o2 x3 x4 x5 x6 h else (xgR h o0 11 7).bind fun a_3 => (xaI h 13 a_3 ((10 * x1) + x6)).bind fun v_4 => (xaI h 13 o2 (x3 + x6)).bind fun v_5 => (if v_4 = v_5 then j158_59 (l158_21 n) o0 x1 o2 x3 x4 x5 x6 1 h else j158_59 (l158_21 n) o0 x1 o2 x3 x4 x5 x6 0 h)))
theorem l158_21_ok {xs : List Int32} {d : Nat} (hd : 1 ≤ d) : ∀ (n : Nat) {o0 : Option Nat} {x1 : Int32} {o2 : Option Nat} {x3 : Int32} {x4 : Int32} {x5 : Int32} {x6 : Int32} {h : xH} {r : (Int32 × xH)}, l158_21 n o0 x1 o2 x3 x4 x5 x6 h = some r → xEv (xTa xs) d 158 (21, [xrv o0, .int x1, xrv o2, .int x3, .int x4, .int x5, .int x6], [], h) (some (.int r.1), r.2) := by
  intro n
  induction n with
  | zero => intros; rename_i hf; cases hf
  | succ n ih =>
    intro o0 x1 o2 x3 x4 x5 x6 h r hf
    replace hf : ((if x4 ≤ x6 then j158_67 o0 x1 o2 x3 x4 x5 x6 h else (if x5 = 0 then j158_67 o0 x1 o2 x3 x4 x5 x6 h else (xgR h o0 11 7).bind fun a_3 => (xaI h 13 a_3 ((10 * x1) + x6)).bind fun v_4 => (xaI h 13 o2 (x3 + x6)).bind fun v_5 => (if v_4 = v_5 then j158_59 (l158_21 n) o0 x1 o2 x3 x4 x5 x6 1 h else j158_59 (l158_21 n) o0 x1 o2 x3 x4 x5 x6 0 h)))) = some r := hf
    refine ev_do i158_21 rfl ?_
    refine ev_do i158_23 rfl ?_
    refine ev_icmp (t := 67) i158_25 rfl (fun c_1 => ?_) (fun c_1 => ?_)
    · replace hf := x_pos (show x4 ≤ x6 from c_1) hf
      exact j158_67_ok hd hf
    · replace hf := x_neg (show ¬ x4 ≤ x6 from c_1) hf
      refine ev_do i158_28 rfl ?_
      refine ev_if (t := 67) i158_30 rfl (fun c_2 => ?_) (fun c_2 => ?_)
      · replace hf := x_pos (show x5 = 0 from c_2) hf
        exact j158_67_ok hd hf
      · replace hf := x_neg (show ¬ x5 = 0 from c_2) hf
        refine sh_aload (i' := 0) (n := 1) i158_33 (Or.inr ⟨rfl, by decide⟩) rfl ?_
        obtain ⟨a_3, ea_3, hf⟩ := x_bind hf
        refine sh_getR i158_34 f158_26 ea_3 ?_
        refine ev_do i158_37 rfl ?_
        refine ev_do i158_39 rfl ?_
        refine ev_do i158_40 rfl ?_
        refine ev_do i158_41 rfl ?_
        refine ev_do i158_43 rfl ?_
        obtain ⟨v_4, ev_4, hf⟩ := x_bind hf
        refine sh_aldI (tg := 13) i158_44 (Or.inl ⟨rfl, rfl⟩) ev_4 ?_
        refine sh_aload (i' := 2) (n := 1) i158_45 (Or.inr ⟨rfl, by decide⟩) rfl ?_
        refine ev_do i158_46 rfl ?_
        refine ev_do i158_47 rfl ?_
        refine ev_do i158_49 rfl ?_
        obtain ⟨v_5, ev_5, hf⟩ := x_bind hf
        refine sh_aldI (tg := 13) i158_50 (Or.inl ⟨rfl, rfl⟩) ev_5 ?_
        refine ev_icmp (t := 58) i158_51 rfl (fun c_6 => ?_) (fun c_6 => ?_)
        · replace hf := x_neg (show ¬ v_4 = v_5 from c_6) hf
          refine ev_do i158_58 rfl ?_
          exact j158_59_ok hd ih hf
        · replace hf := x_pos (show v_4 = v_5 from Decidable.byContradiction (fun h9 => c_6 h9)) hf
          refine ev_do i158_54 rfl ?_
          refine sh_goto (t := 59) i158_55 rfl ?_
          exact j158_59_ok hd ih hf
def j158_16  (o0 : Option Nat) (x1 : Int32) (o2 : Option Nat) (x3 : Int32) (x4 : Int32) (s0 : Int32) (h : xH) : Option (Int32 × xH) := l158_21 xFuel o0 x1 o2 x3 x4 s0 0 h
theorem j158_16_ok {xs : List Int32} {d : Nat} (hd : 1 ≤ d) {u5 : Value} {u6 : Value} {o0 : Option Nat} {x1 : Int32} {o2 : Option Nat} {x3 : Int32} {x4 : Int32} {s0 : Int32} {h : xH} {r : (Int32 × xH)} (hu5 : u5.category = 1) (hu6 : u6.category = 1) (hf : j158_16 o0 x1 o2 x3 x4 s0 h = some r) : xEv (xTa xs) d 158 (16, [xrv o0, .int x1, xrv o2, .int x3, .int x4, u5, u6], [.int s0], h) (some (.int r.1), r.2) := by
  unfold j158_16 at hf
  refine sh_istore (i' := 5) (n := 2) i158_16 (Or.inl rfl) (xokst_of (Nat.le_of_ble_eq_true rfl) rfl) ?_
  refine ev_do i158_18 rfl ?_
  refine sh_istore (i' := 6) (n := 2) i158_19 (Or.inl rfl) (xokst_of (Nat.le_of_ble_eq_true rfl) rfl) ?_
  exact l158_21_ok hd xFuel hf
def fn158 (o0 : Option Nat) (x1 : Int32) (o2 : Option Nat) (x3 : Int32) (x4 : Int32) (h : xH) : Option (Int32 × xH) := (xgR h o0 11 8).bind fun a_1 => (xaI h 13 a_1 x1).bind fun v_2 => (if v_2 = x4 then j158_16 o0 x1 o2 x3 x4 1 h else j158_16 o0 x1 o2 x3 x4 0 h)
theorem fn158_call {xs : List Int32} {d : Nat} (hd : 2 ≤ d) {o0 : Option Nat} {x1 : Int32} {o2 : Option Nat} {x3 : Int32} {x4 : Int32} {h : xH} {r : (Int32 × xH)} (hf : fn158 o0 x1 o2 x3 x4 h = some r) : xCall (xTa xs) d 158 [xrv o0, .int x1, xrv o2, .int x3, .int x4] h (some (.int r.1), r.2) := by
  obtain ⟨d, rfl⟩ : ∃ d2, d = d2 + 1 := ⟨d - 1, by omega⟩
  replace hd : 1 ≤ d := by omega
  refine call_of2 (fl := [xrv o0, .int x1, xrv o2, .int x3, .int x4]) (Ls := [xrv o0, .int x1, xrv o2, .int x3, .int x4, .float 0, .float 0]) m158 (by simp [xfl, xrv_cat, xc_i, xc_j, xc_a, xc_f]) (Nat.le_of_ble_eq_true rfl) rfl ?_
  unfold fn158 at hf
  refine sh_aload (i' := 0) (n := 1) i158_0 (Or.inr ⟨rfl, by decide⟩) rfl ?_
  obtain ⟨a_1, ea_1, hf⟩ := x_bind hf
  refine sh_getR i158_1 f158_29 ea_1 ?_
  refine ev_do i158_4 rfl ?_
  obtain ⟨v_2, ev_2, hf⟩ := x_bind hf
  refine sh_aldI (tg := 13) i158_5 (Or.inl ⟨rfl, rfl⟩) ev_2 ?_
  refine ev_do i158_6 rfl ?_
  refine ev_icmp (t := 15) i158_8 rfl (fun c_3 => ?_) (fun c_3 => ?_)
  · replace hf := x_neg (show ¬ v_2 = x4 from c_3) hf
    refine ev_do i158_15 rfl ?_
    exact j158_16_ok hd rfl rfl hf
  · replace hf := x_pos (show v_2 = x4 from Decidable.byContradiction (fun h9 => c_3 h9)) hf
    refine ev_do i158_11 rfl ?_
    refine sh_goto (t := 16) i158_12 rfl ?_
    exact j158_16_ok hd rfl rfl hf
end
section
def j157_59 (k3 : Option Nat → Int32 → Option Nat → Int32 → Int32 → Int32 → xH → Option (Int32 × xH)) (k12 : Option Nat → Int32 → Option Nat → Int32 → Int32 → Int32 → Int32 → xH → Option (Int32 × xH)) (o0 : Option Nat) (x1 : Int32) (o2 : Option Nat) (x3 : Int32) (x4 : Int32) (x5 : Int32) (x6 : Int32) (h : xH) : Option (Int32 × xH) := k12 o0 x1 o2 x3 x4 x5 (x6 + 1) h
theorem j157_59_ok {xs : List Int32} {d : Nat} (hd : 2 ≤ d) {k3 : Option Nat → Int32 → Option Nat → Int32 → Int32 → Int32 → xH → Option (Int32 × xH)} {k12 : Option Nat → Int32 → Option Nat → Int32 → Int32 → Int32 → Int32 → xH → Option (Int32 × xH)} (hk3 : ∀ {u6 : Value} {o0 : Option Nat} {x1 : Int32} {o2 : Option Nat} {x3 : Int32} {x4 : Int32} {x5 : Int32} {h : xH} {r : (Int32 × xH)}, u6.category = 1 → k3 o0 x1 o2 x3 x4 x5 h = some r → xEv (xTa xs) d 157 (3, [xrv o0, .int x1, xrv o2, .int x3, .int x4, .int x5, u6], [], h) (some (.int r.1), r.2)) (hk12 : ∀ {o0 : Option Nat} {x1 : Int32} {o2 : Option Nat} {x3 : Int32} {x4 : Int32} {x5 : Int32} {x6 : Int32} {h : xH} {r : (Int32 × xH)}, k12 o0 x1 o2 x3 x4 x5 x6 h = some r → xEv (xTa xs) d 157 (12, [xrv o0, .int x1, xrv o2, .int x3, .int x4, .int x5, .int x6], [], h) (some (.int r.1), r.2)) {o0 : Option Nat} {x1 : Int32} {o2 : Option Nat} {x3 : Int32} {x4 : Int32} {x5 : Int32} {x6 : Int32} {h : xH} {r : (Int32 × xH)} (hf : j157_59 k3 k12 o0 x1 o2 x3 x4 x5 x6 h = some r) : xEv (xTa xs) d 157 (59, [xrv o0, .int x1, xrv o2, .int x3, .int x4, .int x5, .int x6], [], h) (some (.int r.1), r.2) := by
  unfold j157_59 at hf
  refine sh_inc (i' := 6) i157_59 rfl (xokst_of (Nat.le_of_ble_eq_true rfl) rfl) rfl ?_
  refine sh_goto (t := 12) i157_62 rfl ?_
  exact hk12 hf
def l157_12 (k3 : Option Nat → Int32 → Option Nat → Int32 → Int32 → Int32 → xH → Option (Int32 × xH)) : Nat → Option Nat → Int32 → Option Nat → Int32 → Int32 → Int32 → Int32 → xH → Option (Int32 × xH)
  | 0 => fun _ _ _ _ _ _ _ _ => none
  | n + 1 => fun o0 x1 o2 x3 x4 x5 x6 h => (xgI h o0 11 2).bind fun v_1 => (if v_1 ≤ x6 then (xgR h o0 11 5).bind fun a_3 => (xaI h 13 a_3 x5).bind fun v_4 => k3 o0 x1 o2 x3 x4 v_4 h else (xgR h o0 11 3).bind fun a_5 => (xaI h 14 a_5 x6).bind fun v_6 => (if v_6 = 0 then (xgR h o0 11 4).bind fun a_8 => (xaI h 13 a_8 x6).bind fun v_9 => (if v_9 = x5 then (xcv h o0 11).bind fun _ => (fn158 o0 x6 o2 x3 x4 h).bind fun r_11 => (if r_11.1 = 0 then j157_59 k3 (l157_12 k3 n) o0 x1 o2 x3 x4 x5 x6 r_11.2 else some (x6, r_11.2)) else j157_59 k3 (l157_12 k3 n) o0 x1 o2 x3 x4 x5 x6 h) else j157_59 k3 (l157_12 k3 n) o0 x1 o2 x3 x4 x5 x6 h))
theorem l157_12_ok {xs : List Int32} {d : Nat} (hd : 2 ≤ d) {k3 : Option Nat → Int32 → Option Nat → Int32 → Int32 → Int32 → xH → Option (Int32 × xH)} (hk3 : ∀ {u6 : Value} {o0 : Option Nat} {x1 : Int32} {o2 : Option Nat} {x3 : Int32} {x4 : Int32} {x5 : Int32} {h : xH} {r : (Int32 × xH)}, u6.category = 1 → k3 o0 x1 o2 x3 x4 x5 h = some r → xEv (xTa xs) d 157 (3, [xrv o0, .int x1, xrv o2, .int x3, .int x4, .int x5, u6], [], h) (some (.int r.1), r.2)) : ∀ (n : Nat) {o0 : Option Nat} {x1 : Int32} {o2 : Option Nat} {x3 : Int32} {x4 : Int32} {x5 : Int32} {x6 : Int32} {h : xH} {r : (Int32 × xH)}, l157_12 k3 n o0 x1 o2 x3 x4 x5 x6 h = some r → xEv (xTa xs) d 157 (12, [xrv o0, .int x1, xrv o2, .int x3, .int x4, .int x5, .int x6], [], h) (some (.int r.1), r.2) := by
  intro n
  induction n with
  | zero => intros; rename_i hf; cases hf
  | succ n ih =>
    intro o0 x1 o2 x3 x4 x5 x6 h r hf
    replace hf : ((xgI h o0 11 2).bind fun v_1 => (if v_1 ≤ x6 then (xgR h o0 11 5).bind fun a_3 => (xaI h 13 a_3 x5).bind fun v_4 => k3 o0 x1 o2 x3 x4 v_4 h else (xgR h o0 11 3).bind fun a_5 => (xaI h 14 a_5 x6).bind fun v_6 => (if v_6 = 0 then (xgR h o0 11 4).bind fun a_8 => (xaI h 13 a_8 x6).bind fun v_9 => (if v_9 = x5 then (xcv h o0 11).bind fun _ => (fn158 o0 x6 o2 x3 x4 h).bind fun r_11 => (if r_11.1 = 0 then j157_59 k3 (l157_12 k3 n) o0 x1 o2 x3 x4 x5 x6 r_11.2 else some (x6, r_11.2)) else j157_59 k3 (l157_12 k3 n) o0 x1 o2 x3 x4 x5 x6 h) else j157_59 k3 (l157_12 k3 n) o0 x1 o2 x3 x4 x5 x6 h))) = some r := hf
    refine ev_do i157_12 rfl ?_
    refine sh_aload (i' := 0) (n := 1) i157_14 (Or.inr ⟨rfl, by decide⟩) rfl ?_
    obtain ⟨v_1, ev_1, hf⟩ := x_bind hf
    refine sh_getI i157_15 f157_158 ev_1 ?_
    refine ev_icmp (t := 65) i157_18 rfl (fun c_2 => ?_) (fun c_2 => ?_)
    · replace hf := x_pos (show v_1 ≤ x6 from c_2) hf
      refine sh_aload (i' := 0) (n := 1) i157_65 (Or.inr ⟨rfl, by decide⟩) rfl ?_
      obtain ⟨a_3, ea_3, hf⟩ := x_bind hf
      refine sh_getR i157_66 f157_20 ea_3 ?_
      refine ev_do i157_69 rfl ?_
      obtain ⟨v_4, ev_4, hf⟩ := x_bind hf
      refine sh_aldI (tg := 13) i157_71 (Or.inl ⟨rfl, rfl⟩) ev_4 ?_
      refine sh_istore (i' := 5) (n := 2) i157_72 (Or.inl rfl) (xokst_of (Nat.le_of_ble_eq_true rfl) rfl) ?_
      refine sh_goto (t := 3) i157_74 rfl ?_
      exact hk3 rfl hf
    · replace hf := x_neg (show ¬ v_1 ≤ x6 from c_2) hf
      refine sh_aload (i' := 0) (n := 1) i157_21 (Or.inr ⟨rfl, by decide⟩) rfl ?_
      obtain ⟨a_5, ea_5, hf⟩ := x_bind hf
      refine sh_getR i157_22 f157_13 ea_5 ?_
      refine ev_do i157_25 rfl ?_
      obtain ⟨v_6, ev_6, hf⟩ := x_bind hf
      refine sh_aldI (tg := 14) i157_27 (Or.inr (Or.inr ⟨rfl, rfl⟩)) ev_6 ?_
      refine ev_if (t := 59) i157_28 rfl (fun c_7 => ?_) (fun c_7 => ?_)
      · replace hf := x_neg (show ¬ v_6 = 0 from c_7) hf
        exact j157_59_ok hd hk3 ih hf
      · replace hf := x_pos (show v_6 = 0 from Decidable.byContradiction (fun h9 => c_7 h9)) hf
        refine sh_aload (i' := 0) (n := 1) i157_31 (Or.inr ⟨rfl, by decide⟩) rfl ?_
        obtain ⟨a_8, ea_8, hf⟩ := x_bind hf
        refine sh_getR i157_32 f157_17 ea_8 ?_
        refine ev_do i157_35 rfl ?_
        obtain ⟨v_9, ev_9, hf⟩ := x_bind hf
        refine sh_aldI (tg := 13) i157_37 (Or.inl ⟨rfl, rfl⟩) ev_9 ?_
        refine ev_do i157_38 rfl ?_
        refine ev_icmp (t := 59) i157_40 rfl (fun c_10 => ?_) (fun c_10 => ?_)
        · replace hf := x_neg (show ¬ v_9 = x5 from c_10) hf
          exact j157_59_ok hd hk3 ih hf
        · replace hf := x_pos (show v_9 = x5 from Decidable.byContradiction (fun h9 => c_10 h9)) hf
          refine sh_aload (i' := 0) (n := 1) i157_43 (Or.inr ⟨rfl, by decide⟩) rfl ?_
          refine ev_do i157_44 rfl ?_
          refine sh_aload (i' := 2) (n := 1) i157_46 (Or.inr ⟨rfl, by decide⟩) rfl ?_
          refine ev_do i157_47 rfl ?_
          refine ev_do i157_48 rfl ?_
          obtain ⟨_, eu_13, hf⟩ := x_bind hf
          obtain ⟨r_11, er_11, hf⟩ := x_bind hf
          refine sh_inv (as := [.int x4, .int x3, xrv o2, .int x6]) (z := (some (.int r_11.1), r_11.2)) i157_50 v157_194 (Or.inl ⟨by decide, rfl⟩) m158 rfl (Nat.le_of_ble_eq_true rfl) eu_13 (fn158_call (by omega) er_11) ?_
          refine ev_if (t := 59) i157_53 rfl (fun c_12 => ?_) (fun c_12 => ?_)
          · replace hf := x_pos (show r_11.1 = 0 from c_12) hf
            exact j157_59_ok hd hk3 ih hf
          · replace hf := x_neg (show ¬ r_11.1 = 0 from c_12) hf
            refine ev_do i157_56 rfl ?_
            obtain rfl := Option.some.inj hf
            exact sh_iret i157_58 m157 rfl rfl
def l157_3  : Nat → Option Nat → Int32 → Option Nat → Int32 → Int32 → Int32 → xH → Option (Int32 × xH)
  | 0 => fun _ _ _ _ _ _ _ => none
  | n + 1 => fun o0 x1 o2 x3 x4 x5 h => (if x5 = (-1) then some ((-1), h) else l157_12 (l157_3 n) xFuel o0 x1 o2 x3 x4 x5 0 h)
theorem l157_3_ok {xs : List Int32} {d : Nat} (hd : 2 ≤ d) : ∀ (n : Nat) {u6 : Value} {o0 : Option Nat} {x1 : Int32} {o2 : Option Nat} {x3 : Int32} {x4 : Int32} {x5 : Int32} {h : xH} {r : (Int32 × xH)} (hu6 : u6.category = 1), l157_3 n o0 x1 o2 x3 x4 x5 h = some r → xEv (xTa xs) d 157 (3, [xrv o0, .int x1, xrv o2, .int x3, .int x4, .int x5, u6], [], h) (some (.int r.1), r.2) := by
  intro n
  induction n with
  | zero => intros; rename_i hf; cases hf
  | succ n ih =>
    intro u6 o0 x1 o2 x3 x4 x5 h r hu6 hf
    replace hf : ((if x5 = (-1) then some ((-1), h) else l157_12 (l157_3 n) xFuel o0 x1 o2 x3 x4 x5 0 h)) = some r := hf
    refine ev_do i157_3 rfl ?_
    refine ev_do i157_5 rfl ?_
    refine ev_icmp (t := 77) i157_6 rfl (fun c_1 => ?_) (fun c_1 => ?_)
    · replace hf := x_pos (show x5 = (-1) from c_1) hf
      refine ev_do i157_77 rfl ?_
      obtain rfl := Option.some.inj hf
      exact sh_iret i157_78 m157 rfl rfl
    · replace hf := x_neg (show ¬ x5 = (-1) from c_1) hf
      refine ev_do i157_9 rfl ?_
      refine sh_istore (i' := 6) (n := 2) i157_10 (Or.inl rfl) (xokst_of (Nat.le_of_ble_eq_true rfl) rfl) ?_
      exact l157_12_ok hd ih xFuel hf
def fn157 (o0 : Option Nat) (x1 : Int32) (o2 : Option Nat) (x3 : Int32) (x4 : Int32) (h : xH) : Option (Int32 × xH) := l157_3 xFuel o0 x1 o2 x3 x4 x1 h
theorem fn157_call {xs : List Int32} {d : Nat} (hd : 3 ≤ d) {o0 : Option Nat} {x1 : Int32} {o2 : Option Nat} {x3 : Int32} {x4 : Int32} {h : xH} {r : (Int32 × xH)} (hf : fn157 o0 x1 o2 x3 x4 h = some r) : xCall (xTa xs) d 157 [xrv o0, .int x1, xrv o2, .int x3, .int x4] h (some (.int r.1), r.2) := by
  obtain ⟨d, rfl⟩ : ∃ d2, d = d2 + 1 := ⟨d - 1, by omega⟩
  replace hd : 2 ≤ d := by omega
  refine call_of2 (fl := [xrv o0, .int x1, xrv o2, .int x3, .int x4]) (Ls := [xrv o0, .int x1, xrv o2, .int x3, .int x4, .float 0, .float 0]) m157 (by simp [xfl, xrv_cat, xc_i, xc_j, xc_a, xc_f]) (Nat.le_of_ble_eq_true rfl) rfl ?_
  unfold fn157 at hf
  refine ev_do i157_0 rfl ?_
  refine sh_istore (i' := 5) (n := 2) i157_1 (Or.inl rfl) (xokst_of (Nat.le_of_ble_eq_true rfl) rfl) ?_
  exact l157_3_ok hd xFuel rfl hf
end
section
def fn156 (o0 : Option Nat) (x1 : Int32) (h : xH) : Option (Int32 × xH) := (xgR h o0 11 3).bind fun a_1 => (xaI h 14 a_1 x1).bind fun v_2 => (if v_2 = 0 then (xgR h o0 11 5).bind fun a_4 => (xgR h o0 11 4).bind fun a_5 => (xaI h 13 a_5 x1).bind fun v_6 => (xaI h 13 a_4 v_6).bind fun v_7 => (xgR h o0 11 7).bind fun a_8 => (xgR h o0 11 8).bind fun a_9 => (xaI h 13 a_9 x1).bind fun v_10 => (xcv h o0 11).bind fun _ => (fn157 o0 v_7 a_8 (10 * x1) v_10 h).bind fun r_11 => some (r_11.1, r_11.2) else some ((-1), h))
theorem fn156_call {xs : List Int32} {d : Nat} (hd : 4 ≤ d) {o0 : Option Nat} {x1 : Int32} {h : xH} {r : (Int32 × xH)} (hf : fn156 o0 x1 h = some r) : xCall (xTa xs) d 156 [xrv o0, .int x1] h (some (.int r.1), r.2) := by
  obtain ⟨d, rfl⟩ : ∃ d2, d = d2 + 1 := ⟨d - 1, by omega⟩
  replace hd : 3 ≤ d := by omega
  refine call_of2 (fl := [xrv o0, .int x1]) (Ls := [xrv o0, .int x1]) m156 (by simp [xfl, xrv_cat, xc_i, xc_j, xc_a, xc_f]) (Nat.le_of_ble_eq_true rfl) rfl ?_
  unfold fn156 at hf
  refine sh_aload (i' := 0) (n := 1) i156_0 (Or.inr ⟨rfl, by decide⟩) rfl ?_
  obtain ⟨a_1, ea_1, hf⟩ := x_bind hf
  refine sh_getR i156_1 f156_13 ea_1 ?_
  refine ev_do i156_4 rfl ?_
  obtain ⟨v_2, ev_2, hf⟩ := x_bind hf
  refine sh_aldI (tg := 14) i156_5 (Or.inr (Or.inr ⟨rfl, rfl⟩)) ev_2 ?_
  refine ev_if (t := 11) i156_6 rfl (fun c_3 => ?_) (fun c_3 => ?_)
  · replace hf := x_pos (show v_2 = 0 from c_3) hf
    refine sh_aload (i' := 0) (n := 1) i156_11 (Or.inr ⟨rfl, by decide⟩) rfl ?_
    refine sh_aload (i' := 0) (n := 1) i156_12 (Or.inr ⟨rfl, by decide⟩) rfl ?_
    obtain ⟨a_4, ea_4, hf⟩ := x_bind hf
    refine sh_getR i156_13 f156_20 ea_4 ?_
    refine sh_aload (i' := 0) (n := 1) i156_16 (Or.inr ⟨rfl, by decide⟩) rfl ?_
    obtain ⟨a_5, ea_5, hf⟩ := x_bind hf
    refine sh_getR i156_17 f156_17 ea_5 ?_
    refine ev_do i156_20 rfl ?_
    obtain ⟨v_6, ev_6, hf⟩ := x_bind hf
    refine sh_aldI (tg := 13) i156_21 (Or.inl ⟨rfl, rfl⟩) ev_6 ?_
    obtain ⟨v_7, ev_7, hf⟩ := x_bind hf
    refine sh_aldI (tg := 13) i156_22 (Or.inl ⟨rfl, rfl⟩) ev_7 ?_
    refine sh_aload (i' := 0) (n := 1) i156_23 (Or.inr ⟨rfl, by decide⟩) rfl ?_
    obtain ⟨a_8, ea_8, hf⟩ := x_bind hf
    refine sh_getR i156_24 f156_26 ea_8 ?_
    refine ev_do i156_27 rfl ?_
    refine ev_do i156_29 rfl ?_
    refine ev_do i156_30 rfl ?_
    refine sh_aload (i' := 0) (n := 1) i156_31 (Or.inr ⟨rfl, by decide⟩) rfl ?_
    obtain ⟨a_9, ea_9, hf⟩ := x_bind hf
    refine sh_getR i156_32 f156_29 ea_9 ?_
    refine ev_do i156_35 rfl ?_
    obtain ⟨v_10, ev_10, hf⟩ := x_bind hf
    refine sh_aldI (tg := 13) i156_36 (Or.inl ⟨rfl, rfl⟩) ev_10 ?_
    obtain ⟨_, eu_12, hf⟩ := x_bind hf
    obtain ⟨r_11, er_11, hf⟩ := x_bind hf
    refine sh_inv (as := [.int v_10, .int (10 * x1), xrv a_8, .int v_7]) (z := (some (.int r_11.1), r_11.2)) i156_37 v156_190 (Or.inl ⟨by decide, rfl⟩) m157 rfl (Nat.le_of_ble_eq_true rfl) eu_12 (fn157_call (by omega) er_11) ?_
    obtain rfl := Option.some.inj hf
    exact sh_iret i156_40 m156 rfl rfl
  · replace hf := x_neg (show ¬ v_2 = 0 from c_3) hf
    refine ev_do i156_9 rfl ?_
    obtain rfl := Option.some.inj hf
    exact sh_iret i156_10 m156 rfl rfl
end
section
def j159_37 (k3 : Option Nat → Option Nat → Int32 → Int32 → Int32 → xH → Option (Int32 × xH)) (o0 : Option Nat) (o1 : Option Nat) (x2 : Int32) (x3 : Int32) (x4 : Int32) (h : xH) : Option (Int32 × xH) := k3 o0 o1 x2 x3 (x4 + 1) h
theorem j159_37_ok {xs : List Int32} {d : Nat} (hd : 2 ≤ d) {k3 : Option Nat → Option Nat → Int32 → Int32 → Int32 → xH → Option (Int32 × xH)} (hk3 : ∀ {o0 : Option Nat} {o1 : Option Nat} {x2 : Int32} {x3 : Int32} {x4 : Int32} {h : xH} {r : (Int32 × xH)}, k3 o0 o1 x2 x3 x4 h = some r → xEv (xTa xs) d 159 (3, [xrv o0, xrv o1, .int x2, .int x3, .int x4], [], h) (some (.int r.1), r.2)) {o0 : Option Nat} {o1 : Option Nat} {x2 : Int32} {x3 : Int32} {x4 : Int32} {h : xH} {r : (Int32 × xH)} (hf : j159_37 k3 o0 o1 x2 x3 x4 h = some r) : xEv (xTa xs) d 159 (37, [xrv o0, xrv o1, .int x2, .int x3, .int x4], [], h) (some (.int r.1), r.2) := by
  unfold j159_37 at hf
  refine sh_inc (i' := 4) i159_37 rfl (xokst_of (Nat.le_of_ble_eq_true rfl) rfl) rfl ?_
  refine sh_goto (t := 3) i159_40 rfl ?_
  exact hk3 hf
def l159_3  : Nat → Option Nat → Option Nat → Int32 → Int32 → Int32 → xH → Option (Int32 × xH)
  | 0 => fun _ _ _ _ _ _ => none
  | n + 1 => fun o0 o1 x2 x3 x4 h => (xgI h o0 11 2).bind fun v_1 => (if v_1 ≤ x4 then some ((-1), h) else (xgR h o0 11 3).bind fun a_3 => (xaI h 14 a_3 x4).bind fun v_4 => (if v_4 = 0 then j159_37 (l159_3 n) o0 o1 x2 x3 x4 h else (xcv h o0 11).bind fun _ => (fn158 o0 x4 o1 x2 x3 h).bind fun r_6 => (if r_6.1 = 0 then j159_37 (l159_3 n) o0 o1 x2 x3 x4 r_6.2 else some (x4, r_6.2))))
theorem l159_3_ok {xs : List Int32} {d : Nat} (hd : 2 ≤ d) : ∀ (n : Nat) {o0 : Option Nat} {o1 : Option Nat} {x2 : Int32} {x3 : Int32} {x4 : Int32} {h : xH} {r : (Int32 × xH)}, l159_3 n o0 o1 x2 x3 x4 h = some r → xEv (xTa xs) d 159 (3, [xrv o0, xrv o1, .int x2, .int x3, .int x4], [], h) (some (.int r.1), r.2) := by
  intro n
  induction n with
  | zero => intros; rename_i hf; cases hf
  | succ n ih =>
    intro o0 o1 x2 x3 x4 h r hf
    replace hf : ((xgI h o0 11 2).bind fun v_1 => (if v_1 ≤ x4 then some ((-1), h) else (xgR h o0 11 3).bind fun a_3 => (xaI h 14 a_3 x4).bind fun v_4 => (if v_4 = 0 then j159_37 (l159_3 n) o0 o1 x2 x3 x4 h else (xcv h o0 11).bind fun _ => (fn158 o0 x4 o1 x2 x3 h).bind fun r_6 => (if r_6.1 = 0 then j159_37 (l159_3 n) o0 o1 x2 x3 x4 r_6.2 else some (x4, r_6.2))))) = some r := hf
    refine ev_do i159_3 rfl ?_
    refine sh_aload (i' := 0) (n := 1) i159_5 (Or.inr ⟨rfl, by decide⟩) rfl ?_
    obtain ⟨v_1, ev_1, hf⟩ := x_bind hf
    refine sh_getI i159_6 f159_158 ev_1 ?_
    refine ev_icmp (t := 43) i159_9 rfl (fun c_2 => ?_) (fun c_2 => ?_)
    · replace hf := x_pos (show v_1 ≤ x4 from c_2) hf
      refine ev_do i159_43 rfl ?_
      obtain rfl := Option.some.inj hf
      exact sh_iret i159_44 m159 rfl rfl
    · replace hf := x_neg (show ¬ v_1 ≤ x4 from c_2) hf
      refine sh_aload (i' := 0) (n := 1) i159_12 (Or.inr ⟨rfl, by decide⟩) rfl ?_
      obtain ⟨a_3, ea_3, hf⟩ := x_bind hf
      refine sh_getR i159_13 f159_13 ea_3 ?_
      refine ev_do i159_16 rfl ?_
      obtain ⟨v_4, ev_4, hf⟩ := x_bind hf
      refine sh_aldI (tg := 14) i159_18 (Or.inr (Or.inr ⟨rfl, rfl⟩)) ev_4 ?_
      refine ev_if (t := 37) i159_19 rfl (fun c_5 => ?_) (fun c_5 => ?_)
      · replace hf := x_pos (show v_4 = 0 from c_5) hf
        exact j159_37_ok hd ih hf
      · replace hf := x_neg (show ¬ v_4 = 0 from c_5) hf
        refine sh_aload (i' := 0) (n := 1) i159_22 (Or.inr ⟨rfl, by decide⟩) rfl ?_
        refine ev_do i159_23 rfl ?_
        refine sh_aload (i' := 1) (n := 1) i159_25 (Or.inr ⟨rfl, by decide⟩) rfl ?_
        refine ev_do i159_26 rfl ?_
        refine ev_do i159_27 rfl ?_
        obtain ⟨_, eu_8, hf⟩ := x_bind hf
        obtain ⟨r_6, er_6, hf⟩ := x_bind hf
        refine sh_inv (as := [.int x3, .int x2, xrv o1, .int x4]) (z := (some (.int r_6.1), r_6.2)) i159_28 v159_194 (Or.inl ⟨by decide, rfl⟩) m158 rfl (Nat.le_of_ble_eq_true rfl) eu_8 (fn158_call (by omega) er_6) ?_
        refine ev_if (t := 37) i159_31 rfl (fun c_7 => ?_) (fun c_7 => ?_)
        · replace hf := x_pos (show r_6.1 = 0 from c_7) hf
          exact j159_37_ok hd ih hf
        · replace hf := x_neg (show ¬ r_6.1 = 0 from c_7) hf
          refine ev_do i159_34 rfl ?_
          obtain rfl := Option.some.inj hf
          exact sh_iret i159_36 m159 rfl rfl
def fn159 (o0 : Option Nat) (o1 : Option Nat) (x2 : Int32) (x3 : Int32) (h : xH) : Option (Int32 × xH) := l159_3 xFuel o0 o1 x2 x3 0 h
theorem fn159_call {xs : List Int32} {d : Nat} (hd : 3 ≤ d) {o0 : Option Nat} {o1 : Option Nat} {x2 : Int32} {x3 : Int32} {h : xH} {r : (Int32 × xH)} (hf : fn159 o0 o1 x2 x3 h = some r) : xCall (xTa xs) d 159 [xrv o0, xrv o1, .int x2, .int x3] h (some (.int r.1), r.2) := by
  obtain ⟨d, rfl⟩ : ∃ d2, d = d2 + 1 := ⟨d - 1, by omega⟩
  replace hd : 2 ≤ d := by omega
  refine call_of2 (fl := [xrv o0, xrv o1, .int x2, .int x3]) (Ls := [xrv o0, xrv o1, .int x2, .int x3, .float 0]) m159 (by simp [xfl, xrv_cat, xc_i, xc_j, xc_a, xc_f]) (Nat.le_of_ble_eq_true rfl) rfl ?_
  unfold fn159 at hf
  refine ev_do i159_0 rfl ?_
  refine sh_istore (i' := 4) (n := 2) i159_1 (Or.inl rfl) (xokst_of (Nat.le_of_ble_eq_true rfl) rfl) ?_
  exact l159_3_ok hd xFuel hf
end
section
def j160_26  (o0 : Option Nat) (x1 : Int32) (x2 : Int32) (h : xH) : Option (Int32 × xH) := some (x2, h)
theorem j160_26_ok {xs : List Int32} {d : Nat} (hd : 4 ≤ d) {o0 : Option Nat} {x1 : Int32} {x2 : Int32} {h : xH} {r : (Int32 × xH)} (hf : j160_26 o0 x1 x2 h = some r) : xEv (xTa xs) d 160 (26, [xrv o0, .int x1, .int x2], [], h) (some (.int r.1), r.2) := by
  unfold j160_26 at hf
  refine ev_do i160_26 rfl ?_
  obtain rfl := Option.some.inj hf
  exact sh_iret i160_27 m160 rfl rfl
def l160_2  : Nat → Option Nat → Int32 → Int32 → xH → Option (Int32 × xH)
  | 0 => fun _ _ _ _ => none
  | n + 1 => fun o0 x1 x2 h => (if x2 = (-1) then j160_26 o0 x1 x2 h else (xgR h o0 11 13).bind fun a_2 => (xaI h 13 a_2 x2).bind fun v_3 => (if v_3 = (-1) then (xcv h o0 11).bind fun _ => (fn156 o0 x2 h).bind fun r_5 => l160_2 n o0 x1 r_5.1 r_5.2 else j160_26 o0 x1 x2 h))
theorem l160_2_ok {xs : List Int32} {d : Nat} (hd : 4 ≤ d) : ∀ (n : Nat) {o0 : Option Nat} {x1 : Int32} {x2 : Int32} {h : xH} {r : (Int32 × xH)}, l160_2 n o0 x1 x2 h = some r → xEv (xTa xs) d 160 (2, [xrv o0, .int x1, .int x2], [], h) (some (.int r.1), r.2) := by
  intro n
  induction n with
  | zero => intros; rename_i hf; cases hf
  | succ n ih =>
    intro o0 x1 x2 h r hf
    replace hf : ((if x2 = (-1) then j160_26 o0 x1 x2 h else (xgR h o0 11 13).bind fun a_2 => (xaI h 13 a_2 x2).bind fun v_3 => (if v_3 = (-1) then (xcv h o0 11).bind fun _ => (fn156 o0 x2 h).bind fun r_5 => l160_2 n o0 x1 r_5.1 r_5.2 else j160_26 o0 x1 x2 h))) = some r := hf
    refine ev_do i160_2 rfl ?_
    refine ev_do i160_3 rfl ?_
    refine ev_icmp (t := 26) i160_4 rfl (fun c_1 => ?_) (fun c_1 => ?_)
    · replace hf := x_pos (show x2 = (-1) from c_1) hf
      exact j160_26_ok hd hf
    · replace hf := x_neg (show ¬ x2 = (-1) from c_1) hf
      refine sh_aload (i' := 0) (n := 1) i160_7 (Or.inr ⟨rfl, by decide⟩) rfl ?_
      obtain ⟨a_2, ea_2, hf⟩ := x_bind hf
      refine sh_getR i160_8 f160_44 ea_2 ?_
      refine ev_do i160_11 rfl ?_
      obtain ⟨v_3, ev_3, hf⟩ := x_bind hf
      refine sh_aldI (tg := 13) i160_12 (Or.inl ⟨rfl, rfl⟩) ev_3 ?_
      refine ev_do i160_13 rfl ?_
      refine ev_icmp (t := 26) i160_14 rfl (fun c_4 => ?_) (fun c_4 => ?_)
      · replace hf := x_neg (show ¬ v_3 = (-1) from c_4) hf
        exact j160_26_ok hd hf
      · replace hf := x_pos (show v_3 = (-1) from Decidable.byContradiction (fun h9 => c_4 h9)) hf
        refine sh_aload (i' := 0) (n := 1) i160_17 (Or.inr ⟨rfl, by decide⟩) rfl ?_
        refine ev_do i160_18 rfl ?_
        obtain ⟨_, eu_6, hf⟩ := x_bind hf
        obtain ⟨r_5, er_5, hf⟩ := x_bind hf
        refine sh_inv (as := [.int x2]) (z := (some (.int r_5.1), r_5.2)) i160_19 v160_198 (Or.inl ⟨by decide, rfl⟩) m156 rfl (Nat.le_of_ble_eq_true rfl) eu_6 (fn156_call (by omega) er_5) ?_
        refine sh_istore (i' := 2) (n := 1) i160_22 (Or.inr ⟨rfl, by decide⟩) (xokst_of (Nat.le_of_ble_eq_true rfl) rfl) ?_
        refine sh_goto (t := 2) i160_23 rfl ?_
        exact ih hf
def fn160 (o0 : Option Nat) (x1 : Int32) (h : xH) : Option (Int32 × xH) := l160_2 xFuel o0 x1 x1 h
theorem fn160_call {xs : List Int32} {d : Nat} (hd : 5 ≤ d) {o0 : Option Nat} {x1 : Int32} {h : xH} {r : (Int32 × xH)} (hf : fn160 o0 x1 h = some r) : xCall (xTa xs) d 160 [xrv o0, .int x1] h (some (.int r.1), r.2) := by
  obtain ⟨d, rfl⟩ : ∃ d2, d = d2 + 1 := ⟨d - 1, by omega⟩
  replace hd : 4 ≤ d := by omega
  refine call_of2 (fl := [xrv o0, .int x1]) (Ls := [xrv o0, .int x1, .float 0]) m160 (by simp [xfl, xrv_cat, xc_i, xc_j, xc_a, xc_f]) (Nat.le_of_ble_eq_true rfl) rfl ?_
  unfold fn160 at hf
  refine ev_do i160_0 rfl ?_
  refine sh_istore (i' := 2) (n := 1) i160_1 (Or.inr ⟨rfl, by decide⟩) (xokst_of (Nat.le_of_ble_eq_true rfl) rfl) ?_
  exact l160_2_ok hd xFuel hf
end
section
def j161_26  (x0 : Int32) (s0 : Int32) (h : xH) : Option (Int32 × xH) := (if s0 &&& 1 = s0 then some (s0, h) else none)
theorem j161_26_ok {xs : List Int32} {d : Nat} (hd : 2 ≤ d) {x0 : Int32} {s0 : Int32} {h : xH} {r : (Int32 × xH)} (hf : j161_26 x0 s0 h = some r) : xEv (xTa xs) d 161 (26, [.int x0], [.int s0], h) (some (.int r.1), r.2) := by
  unfold j161_26 at hf
  by_cases c_1 : s0 &&& 1 = s0
  · replace hf := x_pos c_1 hf
    obtain rfl := Option.some.inj hf
    exact sh_iret i161_26 m161 rfl (congrArg Value.int c_1)
  · replace hf := x_neg c_1 hf
    cases hf
def j161_21  (x0 : Int32) (h : xH) : Option (Int32 × xH) := j161_26 x0 1 h
theorem j161_21_ok {xs : List Int32} {d : Nat} (hd : 2 ≤ d) {x0 : Int32} {h : xH} {r : (Int32 × xH)} (hf : j161_21 x0 h = some r) : xEv (xTa xs) d 161 (21, [.int x0], [], h) (some (.int r.1), r.2) := by
  unfold j161_21 at hf
  refine ev_do i161_21 rfl ?_
  refine sh_goto (t := 26) i161_22 rfl ?_
  exact j161_26_ok hd hf
def fn161 (x0 : Int32) (h : xH) : Option (Int32 × xH) := (fn145 x0 h).bind fun r_1 => (if r_1.1 = 0 then (fn146 x0 r_1.2).bind fun r_3 => (if r_3.1 = 0 then (fn147 x0 r_3.2).bind fun r_5 => (if r_5.1 = 0 then j161_26 x0 0 r_5.2 else j161_21 x0 r_5.2) else j161_21 x0 r_3.2) else j161_21 x0 r_1.2)
theorem fn161_call {xs : List Int32} {d : Nat} (hd : 3 ≤ d) {x0 : Int32} {h : xH} {r : (Int32 × xH)} (hf : fn161 x0 h = some r) : xCall (xTa xs) d 161 [.int x0] h (some (.int r.1), r.2) := by
  obtain ⟨d, rfl⟩ : ∃ d2, d = d2 + 1 := ⟨d - 1, by omega⟩
  replace hd : 2 ≤ d := by omega
  refine call_of2 (fl := [.int x0]) (Ls := [.int x0]) m161 (by simp [xfl, xrv_cat, xc_i, xc_j, xc_a, xc_f]) (Nat.le_of_ble_eq_true rfl) rfl ?_
  unfold fn161 at hf
  refine ev_do i161_0 rfl ?_
  obtain ⟨r_1, er_1, hf⟩ := x_bind hf
  refine ev_sta (as := [.int x0]) (z := (some (.int r_1.1), r_1.2)) i161_1 v161_165 (Or.inl rfl) m145 rfl (Nat.le_of_ble_eq_true rfl) (fn145_call (by omega) er_1) ?_
  refine ev_if (t := 21) i161_4 rfl (fun c_2 => ?_) (fun c_2 => ?_)
  · replace hf := x_neg (show ¬ r_1.1 = 0 from c_2) hf
    exact j161_21_ok hd hf
  · replace hf := x_pos (show r_1.1 = 0 from Decidable.byContradiction (fun h9 => c_2 h9)) hf
    refine ev_do i161_7 rfl ?_
    obtain ⟨r_3, er_3, hf⟩ := x_bind hf
    refine ev_sta (as := [.int x0]) (z := (some (.int r_3.1), r_3.2)) i161_8 v161_168 (Or.inl rfl) m146 rfl (Nat.le_of_ble_eq_true rfl) (fn146_call (by omega) er_3) ?_
    refine ev_if (t := 21) i161_11 rfl (fun c_4 => ?_) (fun c_4 => ?_)
    · replace hf := x_neg (show ¬ r_3.1 = 0 from c_4) hf
      exact j161_21_ok hd hf
    · replace hf := x_pos (show r_3.1 = 0 from Decidable.byContradiction (fun h9 => c_4 h9)) hf
      refine ev_do i161_14 rfl ?_
      obtain ⟨r_5, er_5, hf⟩ := x_bind hf
      refine ev_sta (as := [.int x0]) (z := (some (.int r_5.1), r_5.2)) i161_15 v161_171 (Or.inl rfl) m147 rfl (Nat.le_of_ble_eq_true rfl) (fn147_call (by omega) er_5) ?_
      refine ev_if (t := 25) i161_18 rfl (fun c_6 => ?_) (fun c_6 => ?_)
      · replace hf := x_pos (show r_5.1 = 0 from c_6) hf
        refine ev_do i161_25 rfl ?_
        exact j161_26_ok hd hf
      · replace hf := x_neg (show ¬ r_5.1 = 0 from c_6) hf
        exact j161_21_ok hd hf
end
section
def j162_51  (o0 : Option Nat) (x1 : Int32) (x2 : Int32) (x3 : Int32) (s0 : Int32) (h : xH) : Option (Int32 × xH) := some (s0, h)
theorem j162_51_ok {xs : List Int32} {d : Nat} (hd : 3 ≤ d) {o0 : Option Nat} {x1 : Int32} {x2 : Int32} {x3 : Int32} {s0 : Int32} {h : xH} {r : (Int32 × xH)} (hf : j162_51 o0 x1 x2 x3 s0 h = some r) : xEv (xTa xs) d 162 (51, [xrv o0, .int x1, .int x2, .int x3], [.int s0], h) (some (.int r.1), r.2) := by
  unfold j162_51 at hf
  obtain rfl := Option.some.inj hf
  exact sh_iret i162_51 m162 rfl rfl
def j162_46  (o0 : Option Nat) (x1 : Int32) (x2 : Int32) (x3 : Int32) (h : xH) : Option (Int32 × xH) := j162_51 o0 x1 x2 x3 0 h
theorem j162_46_ok {xs : List Int32} {d : Nat} (hd : 3 ≤ d) {o0 : Option Nat} {x1 : Int32} {x2 : Int32} {x3 : Int32} {h : xH} {r : (Int32 × xH)} (hf : j162_46 o0 x1 x2 x3 h = some r) : xEv (xTa xs) d 162 (46, [xrv o0, .int x1, .int x2, .int x3], [], h) (some (.int r.1), r.2) := by
  unfold j162_46 at hf
  refine ev_do i162_46 rfl ?_
  refine sh_goto (t := 51) i162_47 rfl ?_
  exact j162_51_ok hd hf
def j162_26  (o0 : Option Nat) (x1 : Int32) (x2 : Int32) (x3 : Int32) (h : xH) : Option (Int32 × xH) := (if x3 < 1 then j162_46 o0 x1 x2 x3 h else (if 10 < x3 then j162_46 o0 x1 x2 x3 h else (xaI h 13 o0 x1).bind fun v_3 => (fn147 v_3 h).bind fun r_4 => (if r_4.1 = 0 then j162_51 o0 x1 x2 x3 x3 r_4.2 else j162_46 o0 x1 x2 x3 r_4.2)))
theorem j162_26_ok {xs : List Int32} {d : Nat} (hd : 3 ≤ d) {o0 : Option Nat} {x1 : Int32} {x2 : Int32} {x3 : Int32} {h : xH} {r : (Int32 × xH)} (hf : j162_26 o0 x1 x2 x3 h = some r) : xEv (xTa xs) d 162 (26, [xrv o0, .int x1, .int x2, .int x3], [], h) (some (.int r.1), r.2) := by
  unfold j162_26 at hf
  refine ev_do i162_26 rfl ?_
  refine ev_do i162_27 rfl ?_
  refine ev_icmp (t := 46) i162_28 rfl (fun c_1 => ?_) (fun c_1 => ?_)
  · replace hf := x_pos (show x3 < 1 from c_1) hf
    exact j162_46_ok hd hf
  · replace hf := x_neg (show ¬ x3 < 1 from c_1) hf
    refine ev_do i162_31 rfl ?_
    refine ev_do i162_32 rfl ?_
    refine ev_icmp (t := 46) i162_34 rfl (fun c_2 => ?_) (fun c_2 => ?_)
    · replace hf := x_pos (show 10 < x3 from c_2) hf
      exact j162_46_ok hd hf
    · replace hf := x_neg (show ¬ 10 < x3 from c_2) hf
      refine sh_aload (i' := 0) (n := 1) i162_37 (Or.inr ⟨rfl, by decide⟩) rfl ?_
      refine ev_do i162_38 rfl ?_
      obtain ⟨v_3, ev_3, hf⟩ := x_bind hf
      refine sh_aldI (tg := 13) i162_39 (Or.inl ⟨rfl, rfl⟩) ev_3 ?_
      obtain ⟨r_4, er_4, hf⟩ := x_bind hf
      refine ev_sta (as := [.int v_3]) (z := (some (.int r_4.1), r_4.2)) i162_40 v162_171 (Or.inl rfl) m147 rfl (Nat.le_of_ble_eq_true rfl) (fn147_call (by omega) er_4) ?_
      refine ev_if (t := 50) i162_43 rfl (fun c_5 => ?_) (fun c_5 => ?_)
      · replace hf := x_pos (show r_4.1 = 0 from c_5) hf
        refine ev_do i162_50 rfl ?_
        exact j162_51_ok hd hf
      · replace hf := x_neg (show ¬ r_4.1 = 0 from c_5) hf
        exact j162_46_ok hd hf
def l162_2  : Nat → Option Nat → Int32 → Int32 → Int32 → xH → Option (Int32 × xH)
  | 0 => fun _ _ _ _ _ => none
  | n + 1 => fun o0 x1 x2 x3 h => (if x2 ≤ (x1 + x3) then j162_26 o0 x1 x2 x3 h else (xaI h 13 o0 (x1 + x3)).bind fun v_2 => (fn161 v_2 h).bind fun r_3 => (if r_3.1 = 0 then j162_26 o0 x1 x2 x3 r_3.2 else l162_2 n o0 x1 x2 (x3 + 1) r_3.2))
theorem l162_2_ok {xs : List Int32} {d : Nat} (hd : 3 ≤ d) : ∀ (n : Nat) {o0 : Option Nat} {x1 : Int32} {x2 : Int32} {x3 : Int32} {h : xH} {r : (Int32 × xH)}, l162_2 n o0 x1 x2 x3 h = some r → xEv (xTa xs) d 162 (2, [xrv o0, .int x1, .int x2, .int x3], [], h) (some (.int r.1), r.2) := by
  intro n
  induction n with
  | zero => intros; rename_i hf; cases hf
  | succ n ih =>
    intro o0 x1 x2 x3 h r hf
    replace hf : ((if x2 ≤ (x1 + x3) then j162_26 o0 x1 x2 x3 h else (xaI h 13 o0 (x1 + x3)).bind fun v_2 => (fn161 v_2 h).bind fun r_3 => (if r_3.1 = 0 then j162_26 o0 x1 x2 x3 r_3.2 else l162_2 n o0 x1 x2 (x3 + 1) r_3.2))) = some r := hf
    refine ev_do i162_2 rfl ?_
    refine ev_do i162_3 rfl ?_
    refine ev_do i162_4 rfl ?_
    refine ev_do i162_5 rfl ?_
    refine ev_icmp (t := 26) i162_6 rfl (fun c_1 => ?_) (fun c_1 => ?_)
    · replace hf := x_pos (show x2 ≤ (x1 + x3) from c_1) hf
      exact j162_26_ok hd hf
    · replace hf := x_neg (show ¬ x2 ≤ (x1 + x3) from c_1) hf
      refine sh_aload (i' := 0) (n := 1) i162_9 (Or.inr ⟨rfl, by decide⟩) rfl ?_
      refine ev_do i162_10 rfl ?_
      refine ev_do i162_11 rfl ?_
      refine ev_do i162_12 rfl ?_
      obtain ⟨v_2, ev_2, hf⟩ := x_bind hf
      refine sh_aldI (tg := 13) i162_13 (Or.inl ⟨rfl, rfl⟩) ev_2 ?_
      obtain ⟨r_3, er_3, hf⟩ := x_bind hf
      refine ev_sta (as := [.int v_2]) (z := (some (.int r_3.1), r_3.2)) i162_14 v162_202 (Or.inl rfl) m161 rfl (Nat.le_of_ble_eq_true rfl) (fn161_call (by omega) er_3) ?_
      refine ev_if (t := 26) i162_17 rfl (fun c_4 => ?_) (fun c_4 => ?_)
      · replace hf := x_pos (show r_3.1 = 0 from c_4) hf
        exact j162_26_ok hd hf
      · replace hf := x_neg (show ¬ r_3.1 = 0 from c_4) hf
        refine sh_inc (i' := 3) i162_20 rfl (xokst_of (Nat.le_of_ble_eq_true rfl) rfl) rfl ?_
        refine sh_goto (t := 2) i162_23 rfl ?_
        exact ih hf
def fn162 (o0 : Option Nat) (x1 : Int32) (x2 : Int32) (h : xH) : Option (Int32 × xH) := l162_2 xFuel o0 x1 x2 0 h
theorem fn162_call {xs : List Int32} {d : Nat} (hd : 4 ≤ d) {o0 : Option Nat} {x1 : Int32} {x2 : Int32} {h : xH} {r : (Int32 × xH)} (hf : fn162 o0 x1 x2 h = some r) : xCall (xTa xs) d 162 [xrv o0, .int x1, .int x2] h (some (.int r.1), r.2) := by
  obtain ⟨d, rfl⟩ : ∃ d2, d = d2 + 1 := ⟨d - 1, by omega⟩
  replace hd : 3 ≤ d := by omega
  refine call_of2 (fl := [xrv o0, .int x1, .int x2]) (Ls := [xrv o0, .int x1, .int x2, .float 0]) m162 (by simp [xfl, xrv_cat, xc_i, xc_j, xc_a, xc_f]) (Nat.le_of_ble_eq_true rfl) rfl ?_
  unfold fn162 at hf
  refine ev_do i162_0 rfl ?_
  refine sh_istore (i' := 3) (n := 1) i162_1 (Or.inr ⟨rfl, by decide⟩) (xokst_of (Nat.le_of_ble_eq_true rfl) rfl) ?_
  exact l162_2_ok hd xFuel hf
end
section
def j163_57  (o0 : Option Nat) (x1 : Int32) (x2 : Int32) (x3 : Int32) (x4 : Int32) (s0 : Int32) (h : xH) : Option (Int32 × xH) := some (s0, h)
theorem j163_57_ok {xs : List Int32} {d : Nat} (hd : 4 ≤ d) {o0 : Option Nat} {x1 : Int32} {x2 : Int32} {x3 : Int32} {x4 : Int32} {s0 : Int32} {h : xH} {r : (Int32 × xH)} (hf : j163_57 o0 x1 x2 x3 x4 s0 h = some r) : xEv (xTa xs) d 163 (57, [xrv o0, .int x1, .int x2, .int x3, .int x4], [.int s0], h) (some (.int r.1), r.2) := by
  unfold j163_57 at hf
  obtain rfl := Option.some.inj hf
  exact sh_iret i163_57 m163 rfl rfl
def j163_28  (o0 : Option Nat) (x1 : Int32) (x2 : Int32) (x3 : Int32) (h : xH) : Option (Int32 × xH) := some (x3, h)
theorem j163_28_ok {xs : List Int32} {d : Nat} (hd : 4 ≤ d) {u4 : Value} {o0 : Option Nat} {x1 : Int32} {x2 : Int32} {x3 : Int32} {h : xH} {r : (Int32 × xH)} (hu4 : u4.category = 1) (hf : j163_28 o0 x1 x2 x3 h = some r) : xEv (xTa xs) d 163 (28, [xrv o0, .int x1, .int x2, .int x3, u4], [], h) (some (.int r.1), r.2) := by
  unfold j163_28 at hf
  refine ev_do i163_28 rfl ?_
  obtain rfl := Option.some.inj hf
  exact sh_iret i163_29 m163 rfl rfl
def fn163 (o0 : Option Nat) (x1 : Int32) (x2 : Int32) (h : xH) : Option (Int32 × xH) := (fn162 o0 x1 x2 h).bind fun r_1 => (if r_1.1 = 0 then j163_28 o0 x1 x2 r_1.1 r_1.2 else (if x2 ≤ (x1 + r_1.1) then j163_28 o0 x1 x2 r_1.1 r_1.2 else (xaI r_1.2 13 o0 (x1 + r_1.1)).bind fun v_4 => (if v_4 = 46 then (fn162 o0 ((x1 + r_1.1) + 1) x2 r_1.2).bind fun r_6 => (if r_6.1 = 0 then j163_57 o0 x1 x2 r_1.1 r_6.1 0 r_6.2 else j163_57 o0 x1 x2 r_1.1 r_6.1 ((r_1.1 + 1) + r_6.1) r_6.2) else j163_28 o0 x1 x2 r_1.1 r_1.2)))
theorem fn163_call {xs : List Int32} {d : Nat} (hd : 5 ≤ d) {o0 : Option Nat} {x1 : Int32} {x2 : Int32} {h : xH} {r : (Int32 × xH)} (hf : fn163 o0 x1 x2 h = some r) : xCall (xTa xs) d 163 [xrv o0, .int x1, .int x2] h (some (.int r.1), r.2) := by
  obtain ⟨d, rfl⟩ : ∃ d2, d = d2 + 1 := ⟨d - 1, by omega⟩
  replace hd : 4 ≤ d := by omega
  refine call_of2 (fl := [xrv o0, .int x1, .int x2]) (Ls := [xrv o0, .int x1, .int x2, .float 0, .float 0]) m163 (by simp [xfl, xrv_cat, xc_i, xc_j, xc_a, xc_f]) (Nat.le_of_ble_eq_true rfl) rfl ?_
  unfold fn163 at hf
  refine sh_aload (i' := 0) (n := 1) i163_0 (Or.inr ⟨rfl, by decide⟩) rfl ?_
  refine ev_do i163_1 rfl ?_
  refine ev_do i163_2 rfl ?_
  obtain ⟨r_1, er_1, hf⟩ := x_bind hf
  refine ev_sta (as := [.int x2, .int x1, xrv o0]) (z := (some (.int r_1.1), r_1.2)) i163_3 v163_205 (Or.inl rfl) m162 rfl (Nat.le_of_ble_eq_true rfl) (fn162_call (by omega) er_1) ?_
  refine sh_istore (i' := 3) (n := 1) i163_6 (Or.inr ⟨rfl, by decide⟩) (xokst_of (Nat.le_of_ble_eq_true rfl) rfl) ?_
  refine ev_do i163_7 rfl ?_
  refine ev_if (t := 28) i163_8 rfl (fun c_2 => ?_) (fun c_2 => ?_)
  · replace hf := x_pos (show r_1.1 = 0 from c_2) hf
    exact j163_28_ok hd rfl hf
  · replace hf := x_neg (show ¬ r_1.1 = 0 from c_2) hf
    refine ev_do i163_11 rfl ?_
    refine ev_do i163_12 rfl ?_
    refine ev_do i163_13 rfl ?_
    refine ev_do i163_14 rfl ?_
    refine ev_icmp (t := 28) i163_15 rfl (fun c_3 => ?_) (fun c_3 => ?_)
    · replace hf := x_pos (show x2 ≤ (x1 + r_1.1) from c_3) hf
      exact j163_28_ok hd rfl hf
    · replace hf := x_neg (show ¬ x2 ≤ (x1 + r_1.1) from c_3) hf
      refine sh_aload (i' := 0) (n := 1) i163_18 (Or.inr ⟨rfl, by decide⟩) rfl ?_
      refine ev_do i163_19 rfl ?_
      refine ev_do i163_20 rfl ?_
      refine ev_do i163_21 rfl ?_
      obtain ⟨v_4, ev_4, hf⟩ := x_bind hf
      refine sh_aldI (tg := 13) i163_22 (Or.inl ⟨rfl, rfl⟩) ev_4 ?_
      refine ev_do i163_23 rfl ?_
      refine ev_icmp (t := 30) i163_25 rfl (fun c_5 => ?_) (fun c_5 => ?_)
      · replace hf := x_pos (show v_4 = 46 from c_5) hf
        refine sh_aload (i' := 0) (n := 1) i163_30 (Or.inr ⟨rfl, by decide⟩) rfl ?_
        refine ev_do i163_31 rfl ?_
        refine ev_do i163_32 rfl ?_
        refine ev_do i163_33 rfl ?_
        refine ev_do i163_34 rfl ?_
        refine ev_do i163_35 rfl ?_
        refine ev_do i163_36 rfl ?_
        obtain ⟨r_6, er_6, hf⟩ := x_bind hf
        refine ev_sta (as := [.int x2, .int ((x1 + r_1.1) + 1), xrv o0]) (z := (some (.int r_6.1), r_6.2)) i163_37 v163_205 (Or.inl rfl) m162 rfl (Nat.le_of_ble_eq_true rfl) (fn162_call (by omega) er_6) ?_
        refine sh_istore (i' := 4) (n := 2) i163_40 (Or.inl rfl) (xokst_of (Nat.le_of_ble_eq_true rfl) rfl) ?_
        refine ev_do i163_42 rfl ?_
        refine ev_if (t := 51) i163_44 rfl (fun c_7 => ?_) (fun c_7 => ?_)
        · replace hf := x_neg (show ¬ r_6.1 = 0 from c_7) hf
          refine ev_do i163_51 rfl ?_
          refine ev_do i163_52 rfl ?_
          refine ev_do i163_53 rfl ?_
          refine ev_do i163_54 rfl ?_
          refine ev_do i163_56 rfl ?_
          exact j163_57_ok hd hf
        · replace hf := x_pos (show r_6.1 = 0 from Decidable.byContradiction (fun h9 => c_7 h9)) hf
          refine ev_do i163_47 rfl ?_
          refine sh_goto (t := 57) i163_48 rfl ?_
          exact j163_57_ok hd hf
      · replace hf := x_neg (show ¬ v_4 = 46 from c_5) hf
        exact j163_28_ok hd rfl hf
end
section
def j164_137  (o0 : Option Nat) (x1 : Int32) (o2 : Option Nat) (x3 : Int32) (x4 : Int32) (x5 : Int32) (x6 : Int32) (x7 : Int32) (x8 : Int32) (s0 : Int32) (h : xH) : Option (Int32 × xH) := some (s0, h)
theorem j164_137_ok {xs : List Int32} {d : Nat} (hd : 4 ≤ d) {o0 : Option Nat} {x1 : Int32} {o2 : Option Nat} {x3 : Int32} {x4 : Int32} {x5 : Int32} {x6 : Int32} {x7 : Int32} {x8 : Int32} {s0 : Int32} {h : xH} {r : (Int32 × xH)} (hf : j164_137 o0 x1 o2 x3 x4 x5 x6 x7 x8 s0 h = some r) : xEv (xTa xs) d 164 (137, [xrv o0, .int x1, xrv o2, .int x3, .int x4, .int x5, .int x6, .int x7, .int x8], [.int s0], h) (some (.int r.1), r.2) := by
  unfold j164_137 at hf
  obtain rfl := Option.some.inj hf
  exact sh_iret i164_137 m164 rfl rfl
def j164_117  (o0 : Option Nat) (x1 : Int32) (o2 : Option Nat) (x3 : Int32) (x4 : Int32) (x5 : Int32) (x6 : Int32) (x7 : Int32) (x8 : Int32) (h : xH) : Option (Int32 × xH) := j164_137 o0 x1 o2 x3 x4 x5 x6 x7 x8 (-1) h
theorem j164_117_ok {xs : List Int32} {d : Nat} (hd : 4 ≤ d) {o0 : Option Nat} {x1 : Int32} {o2 : Option Nat} {x3 : Int32} {x4 : Int32} {x5 : Int32} {x6 : Int32} {x7 : Int32} {x8 : Int32} {h : xH} {r : (Int32 × xH)} (hf : j164_117 o0 x1 o2 x3 x4 x5 x6 x7 x8 h = some r) : xEv (xTa xs) d 164 (117, [xrv o0, .int x1, xrv o2, .int x3, .int x4, .int x5, .int x6, .int x7, .int x8], [], h) (some (.int r.1), r.2) := by
  unfold j164_117 at hf
  refine ev_do i164_117 rfl ?_
  refine sh_goto (t := 137) i164_118 rfl ?_
  exact j164_137_ok hd hf
def j164_91  (o0 : Option Nat) (x1 : Int32) (o2 : Option Nat) (x3 : Int32) (x4 : Int32) (x5 : Int32) (x6 : Int32) (s0 : Int32) (h : xH) : Option (Int32 × xH) := (if s0 = (-1) then j164_117 o0 x1 o2 x3 x4 x5 x6 s0 ((x3 + x5) + 1) h else (xaI h 13 o2 ((x3 + x5) + 1)).bind fun v_2 => (fn146 v_2 h).bind fun r_3 => (if r_3.1 = 0 then j164_117 o0 x1 o2 x3 x4 x5 x6 s0 ((x3 + x5) + 1) r_3.2 else (xcv r_3.2 o0 11).bind fun _ => (fn157 o0 s0 o2 ((x3 + x5) + 1) ((x4 - x5) - 1) r_3.2).bind fun r_5 => j164_137 o0 x1 o2 x3 x4 x5 x6 s0 ((x3 + x5) + 1) r_5.1 r_5.2))
theorem j164_91_ok {xs : List Int32} {d : Nat} (hd : 4 ≤ d) {u7 : Value} {u8 : Value} {o0 : Option Nat} {x1 : Int32} {o2 : Option Nat} {x3 : Int32} {x4 : Int32} {x5 : Int32} {x6 : Int32} {s0 : Int32} {h : xH} {r : (Int32 × xH)} (hu7 : u7.category = 1) (hu8 : u8.category = 1) (hf : j164_91 o0 x1 o2 x3 x4 x5 x6 s0 h = some r) : xEv (xTa xs) d 164 (91, [xrv o0, .int x1, xrv o2, .int x3, .int x4, .int x5, .int x6, u7, u8], [.int s0], h) (some (.int r.1), r.2) := by
  unfold j164_91 at hf
  refine sh_istore (i' := 7) (n := 2) i164_91 (Or.inl rfl) (xokst_of (Nat.le_of_ble_eq_true rfl) rfl) ?_
  refine ev_do i164_93 rfl ?_
  refine ev_do i164_94 rfl ?_
  refine ev_do i164_96 rfl ?_
  refine ev_do i164_97 rfl ?_
  refine ev_do i164_98 rfl ?_
  refine sh_istore (i' := 8) (n := 2) i164_99 (Or.inl rfl) (xokst_of (Nat.le_of_ble_eq_true rfl) rfl) ?_
  refine ev_do i164_101 rfl ?_
  refine ev_do i164_103 rfl ?_
  refine ev_icmp (t := 117) i164_104 rfl (fun c_1 => ?_) (fun c_1 => ?_)
  · replace hf := x_pos (show s0 = (-1) from c_1) hf
    exact j164_117_ok hd hf
  · replace hf := x_neg (show ¬ s0 = (-1) from c_1) hf
    refine sh_aload (i' := 2) (n := 1) i164_107 (Or.inr ⟨rfl, by decide⟩) rfl ?_
    refine ev_do i164_108 rfl ?_
    obtain ⟨v_2, ev_2, hf⟩ := x_bind hf
    refine sh_aldI (tg := 13) i164_110 (Or.inl ⟨rfl, rfl⟩) ev_2 ?_
    obtain ⟨r_3, er_3, hf⟩ := x_bind hf
    refine ev_sta (as := [.int v_2]) (z := (some (.int r_3.1), r_3.2)) i164_111 v164_168 (Or.inl rfl) m146 rfl (Nat.le_of_ble_eq_true rfl) (fn146_call (by omega) er_3) ?_
    refine ev_if (t := 121) i164_114 rfl (fun c_4 => ?_) (fun c_4 => ?_)
    · replace hf := x_neg (show ¬ r_3.1 = 0 from c_4) hf
      refine sh_aload (i' := 0) (n := 1) i164_121 (Or.inr ⟨rfl, by decide⟩) rfl ?_
      refine ev_do i164_122 rfl ?_
      refine sh_aload (i' := 2) (n := 1) i164_124 (Or.inr ⟨rfl, by decide⟩) rfl ?_
      refine ev_do i164_125 rfl ?_
      refine ev_do i164_127 rfl ?_
      refine ev_do i164_129 rfl ?_
      refine ev_do i164_131 rfl ?_
      refine ev_do i164_132 rfl ?_
      refine ev_do i164_133 rfl ?_
      obtain ⟨_, eu_6, hf⟩ := x_bind hf
      obtain ⟨r_5, er_5, hf⟩ := x_bind hf
      refine sh_inv (as := [.int ((x4 - x5) - 1), .int ((x3 + x5) + 1), xrv o2, .int s0]) (z := (some (.int r_5.1), r_5.2)) i164_134 v164_190 (Or.inl ⟨by decide, rfl⟩) m157 rfl (Nat.le_of_ble_eq_true rfl) eu_6 (fn157_call (by omega) er_5) ?_
      exact j164_137_ok hd hf
    · replace hf := x_pos (show r_3.1 = 0 from Decidable.byContradiction (fun h9 => c_4 h9)) hf
      exact j164_117_ok hd hf
def j164_69  (o0 : Option Nat) (x1 : Int32) (o2 : Option Nat) (x3 : Int32) (x4 : Int32) (x5 : Int32) (x6 : Int32) (s0 : Int32) (h : xH) : Option (Int32 × xH) := some (s0, h)
theorem j164_69_ok {xs : List Int32} {d : Nat} (hd : 4 ≤ d) {u7 : Value} {u8 : Value} {o0 : Option Nat} {x1 : Int32} {o2 : Option Nat} {x3 : Int32} {x4 : Int32} {x5 : Int32} {x6 : Int32} {s0 : Int32} {h : xH} {r : (Int32 × xH)} (hu7 : u7.category = 1) (hu8 : u8.category = 1) (hf : j164_69 o0 x1 o2 x3 x4 x5 x6 s0 h = some r) : xEv (xTa xs) d 164 (69, [xrv o0, .int x1, xrv o2, .int x3, .int x4, .int x5, .int x6, u7, u8], [.int s0], h) (some (.int r.1), r.2) := by
  unfold j164_69 at hf
  obtain rfl := Option.some.inj hf
  exact sh_iret i164_69 m164 rfl rfl
def j164_30  (o0 : Option Nat) (x1 : Int32) (o2 : Option Nat) (x3 : Int32) (x4 : Int32) (x5 : Int32) (s0 : Int32) (h : xH) : Option (Int32 × xH) := (if x5 = x4 then (xaI h 13 o2 x3).bind fun v_2 => (fn145 v_2 h).bind fun r_3 => (if r_3.1 = 0 then (xcv r_3.2 o0 11).bind fun _ => (fn157 o0 s0 o2 x3 x4 r_3.2).bind fun r_5 => j164_69 o0 x1 o2 x3 x4 x5 s0 r_5.1 r_5.2 else (xcv r_3.2 o0 11).bind fun _ => (fn159 o0 o2 x3 x4 r_3.2).bind fun r_7 => j164_69 o0 x1 o2 x3 x4 x5 s0 r_7.1 r_7.2) else (xaI h 13 o2 x3).bind fun v_9 => (fn145 v_9 h).bind fun r_10 => (if r_10.1 = 0 then j164_91 o0 x1 o2 x3 x4 x5 s0 (-1) r_10.2 else (xcv r_10.2 o0 11).bind fun _ => (fn159 o0 o2 x3 x5 r_10.2).bind fun r_12 => j164_91 o0 x1 o2 x3 x4 x5 s0 r_12.1 r_12.2))
theorem j164_30_ok {xs : List Int32} {d : Nat} (hd : 4 ≤ d) {u6 : Value} {u7 : Value} {u8 : Value} {o0 : Option Nat} {x1 : Int32} {o2 : Option Nat} {x3 : Int32} {x4 : Int32} {x5 : Int32} {s0 : Int32} {h : xH} {r : (Int32 × xH)} (hu6 : u6.category = 1) (hu7 : u7.category = 1) (hu8 : u8.category = 1) (hf : j164_30 o0 x1 o2 x3 x4 x5 s0 h = some r) : xEv (xTa xs) d 164 (30, [xrv o0, .int x1, xrv o2, .int x3, .int x4, .int x5, u6, u7, u8], [.int s0], h) (some (.int r.1), r.2) := by
  unfold j164_30 at hf
  refine sh_istore (i' := 6) (n := 2) i164_30 (Or.inl rfl) (xokst_of (Nat.le_of_ble_eq_true rfl) rfl) ?_
  refine ev_do i164_32 rfl ?_
  refine ev_do i164_34 rfl ?_
  refine ev_icmp (t := 70) i164_36 rfl (fun c_1 => ?_) (fun c_1 => ?_)
  · replace hf := x_neg (show ¬ x5 = x4 from c_1) hf
    refine sh_aload (i' := 2) (n := 1) i164_70 (Or.inr ⟨rfl, by decide⟩) rfl ?_
    refine ev_do i164_71 rfl ?_
    obtain ⟨v_9, ev_9, hf⟩ := x_bind hf
    refine sh_aldI (tg := 13) i164_72 (Or.inl ⟨rfl, rfl⟩) ev_9 ?_
    obtain ⟨r_10, er_10, hf⟩ := x_bind hf
    refine ev_sta (as := [.int v_9]) (z := (some (.int r_10.1), r_10.2)) i164_73 v164_165 (Or.inl rfl) m145 rfl (Nat.le_of_ble_eq_true rfl) (fn145_call (by omega) er_10) ?_
    refine ev_if (t := 90) i164_76 rfl (fun c_11 => ?_) (fun c_11 => ?_)
    · replace hf := x_pos (show r_10.1 = 0 from c_11) hf
      refine ev_do i164_90 rfl ?_
      exact j164_91_ok hd hu7 hu8 hf
    · replace hf := x_neg (show ¬ r_10.1 = 0 from c_11) hf
      refine sh_aload (i' := 0) (n := 1) i164_79 (Or.inr ⟨rfl, by decide⟩) rfl ?_
      refine sh_aload (i' := 2) (n := 1) i164_80 (Or.inr ⟨rfl, by decide⟩) rfl ?_
      refine ev_do i164_81 rfl ?_
      refine ev_do i164_82 rfl ?_
      obtain ⟨_, eu_13, hf⟩ := x_bind hf
      obtain ⟨r_12, er_12, hf⟩ := x_bind hf
      refine sh_inv (as := [.int x5, .int x3, xrv o2]) (z := (some (.int r_12.1), r_12.2)) i164_84 v164_209 (Or.inl ⟨by decide, rfl⟩) m159 rfl (Nat.le_of_ble_eq_true rfl) eu_13 (fn159_call (by omega) er_12) ?_
      refine sh_goto (t := 91) i164_87 rfl ?_
      exact j164_91_ok hd hu7 hu8 hf
  · replace hf := x_pos (show x5 = x4 from Decidable.byContradiction (fun h9 => c_1 h9)) hf
    refine sh_aload (i' := 2) (n := 1) i164_39 (Or.inr ⟨rfl, by decide⟩) rfl ?_
    refine ev_do i164_40 rfl ?_
    obtain ⟨v_2, ev_2, hf⟩ := x_bind hf
    refine sh_aldI (tg := 13) i164_41 (Or.inl ⟨rfl, rfl⟩) ev_2 ?_
    obtain ⟨r_3, er_3, hf⟩ := x_bind hf
    refine ev_sta (as := [.int v_2]) (z := (some (.int r_3.1), r_3.2)) i164_42 v164_165 (Or.inl rfl) m145 rfl (Nat.le_of_ble_eq_true rfl) (fn145_call (by omega) er_3) ?_
    refine ev_if (t := 59) i164_45 rfl (fun c_4 => ?_) (fun c_4 => ?_)
    · replace hf := x_pos (show r_3.1 = 0 from c_4) hf
      refine sh_aload (i' := 0) (n := 1) i164_59 (Or.inr ⟨rfl, by decide⟩) rfl ?_
      refine ev_do i164_60 rfl ?_
      refine sh_aload (i' := 2) (n := 1) i164_62 (Or.inr ⟨rfl, by decide⟩) rfl ?_
      refine ev_do i164_63 rfl ?_
      refine ev_do i164_64 rfl ?_
      obtain ⟨_, eu_6, hf⟩ := x_bind hf
      obtain ⟨r_5, er_5, hf⟩ := x_bind hf
      refine sh_inv (as := [.int x4, .int x3, xrv o2, .int s0]) (z := (some (.int r_5.1), r_5.2)) i164_66 v164_190 (Or.inl ⟨by decide, rfl⟩) m157 rfl (Nat.le_of_ble_eq_true rfl) eu_6 (fn157_call (by omega) er_5) ?_
      exact j164_69_ok hd hu7 hu8 hf
    · replace hf := x_neg (show ¬ r_3.1 = 0 from c_4) hf
      refine sh_aload (i' := 0) (n := 1) i164_48 (Or.inr ⟨rfl, by decide⟩) rfl ?_
      refine sh_aload (i' := 2) (n := 1) i164_49 (Or.inr ⟨rfl, by decide⟩) rfl ?_
      refine ev_do i164_50 rfl ?_
      refine ev_do i164_51 rfl ?_
      obtain ⟨_, eu_8, hf⟩ := x_bind hf
      obtain ⟨r_7, er_7, hf⟩ := x_bind hf
      refine sh_inv (as := [.int x4, .int x3, xrv o2]) (z := (some (.int r_7.1), r_7.2)) i164_53 v164_209 (Or.inl ⟨by decide, rfl⟩) m159 rfl (Nat.le_of_ble_eq_true rfl) eu_8 (fn159_call (by omega) er_7) ?_
      refine sh_goto (t := 69) i164_56 rfl ?_
      exact j164_69_ok hd hu7 hu8 hf
def fn164 (o0 : Option Nat) (x1 : Int32) (o2 : Option Nat) (x3 : Int32) (x4 : Int32) (h : xH) : Option (Int32 × xH) := (fn162 o2 x3 (x3 + x4) h).bind fun r_1 => (xgR r_1.2 o0 11 3).bind fun a_2 => (xaI r_1.2 14 a_2 x1).bind fun v_3 => (if v_3 = 0 then (xgR r_1.2 o0 11 4).bind fun a_5 => (xaI r_1.2 13 a_5 x1).bind fun v_6 => j164_30 o0 x1 o2 x3 x4 r_1.1 v_6 r_1.2 else j164_30 o0 x1 o2 x3 x4 r_1.1 x1 r_1.2)
theorem fn164_call {xs : List Int32} {d : Nat} (hd : 5 ≤ d) {o0 : Option Nat} {x1 : Int32} {o2 : Option Nat} {x3 : Int32} {x4 : Int32} {h : xH} {r : (Int32 × xH)} (hf : fn164 o0 x1 o2 x3 x4 h = some r) : xCall (xTa xs) d 164 [xrv o0, .int x1, xrv o2, .int x3, .int x4] h (some (.int r.1), r.2) := by
  obtain ⟨d, rfl⟩ : ∃ d2, d = d2 + 1 := ⟨d - 1, by omega⟩
  replace hd : 4 ≤ d := by omega
  refine call_of2 (fl := [xrv o0, .int x1, xrv o2, .int x3, .int x4]) (Ls := [xrv o0, .int x1, xrv o2, .int x3, .int x4, .float 0, .float 0, .float 0, .float 0]) m164 (by simp [xfl, xrv_cat, xc_i, xc_j, xc_a, xc_f]) (Nat.le_of_ble_eq_true rfl) rfl ?_
  unfold fn164 at hf
  refine sh_aload (i' := 2) (n := 1) i164_0 (Or.inr ⟨rfl, by decide⟩) rfl ?_
  refine ev_do i164_1 rfl ?_
  refine ev_do i164_2 rfl ?_
  refine ev_do i164_3 rfl ?_
  refine ev_do i164_5 rfl ?_
  obtain ⟨r_1, er_1, hf⟩ := x_bind hf
  refine ev_sta (as := [.int (x3 + x4), .int x3, xrv o2]) (z := (some (.int r_1.1), r_1.2)) i164_6 v164_205 (Or.inl rfl) m162 rfl (Nat.le_of_ble_eq_true rfl) (fn162_call (by omega) er_1) ?_
  refine sh_istore (i' := 5) (n := 2) i164_9 (Or.inl rfl) (xokst_of (Nat.le_of_ble_eq_true rfl) rfl) ?_
  refine sh_aload (i' := 0) (n := 1) i164_11 (Or.inr ⟨rfl, by decide⟩) rfl ?_
  obtain ⟨a_2, ea_2, hf⟩ := x_bind hf
  refine sh_getR i164_12 f164_13 ea_2 ?_
  refine ev_do i164_15 rfl ?_
  obtain ⟨v_3, ev_3, hf⟩ := x_bind hf
  refine sh_aldI (tg := 14) i164_16 (Or.inr (Or.inr ⟨rfl, rfl⟩)) ev_3 ?_
  refine ev_if (t := 24) i164_17 rfl (fun c_4 => ?_) (fun c_4 => ?_)
  · replace hf := x_pos (show v_3 = 0 from c_4) hf
    refine sh_aload (i' := 0) (n := 1) i164_24 (Or.inr ⟨rfl, by decide⟩) rfl ?_
    obtain ⟨a_5, ea_5, hf⟩ := x_bind hf
    refine sh_getR i164_25 f164_17 ea_5 ?_
    refine ev_do i164_28 rfl ?_
    obtain ⟨v_6, ev_6, hf⟩ := x_bind hf
    refine sh_aldI (tg := 13) i164_29 (Or.inl ⟨rfl, rfl⟩) ev_6 ?_
    exact j164_30_ok hd rfl rfl rfl hf
  · replace hf := x_neg (show ¬ v_3 = 0 from c_4) hf
    refine ev_do i164_20 rfl ?_
    refine sh_goto (t := 30) i164_21 rfl ?_
    exact j164_30_ok hd rfl rfl rfl hf
end
section
def j165_53  (o0 : Option Nat) (x1 : Int32) (x2 : Int32) (s0 : Int32) (h : xH) : Option (Int32 × xH) := some (s0, h)
theorem j165_53_ok {xs : List Int32} {d : Nat} (hd : 5 ≤ d) {o0 : Option Nat} {x1 : Int32} {x2 : Int32} {s0 : Int32} {h : xH} {r : (Int32 × xH)} (hf : j165_53 o0 x1 x2 s0 h = some r) : xEv (xTa xs) d 165 (53, [xrv o0, .int x1, .int x2], [.int s0], h) (some (.int r.1), r.2) := by
  unfold j165_53 at hf
  obtain rfl := Option.some.inj hf
  exact sh_iret i165_53 m165 rfl rfl
def j165_52  (o0 : Option Nat) (x1 : Int32) (x2 : Int32) (h : xH) : Option (Int32 × xH) := j165_53 o0 x1 x2 (-1) h
theorem j165_52_ok {xs : List Int32} {d : Nat} (hd : 5 ≤ d) {o0 : Option Nat} {x1 : Int32} {x2 : Int32} {h : xH} {r : (Int32 × xH)} (hf : j165_52 o0 x1 x2 h = some r) : xEv (xTa xs) d 165 (52, [xrv o0, .int x1, .int x2], [], h) (some (.int r.1), r.2) := by
  unfold j165_52 at hf
  refine ev_do i165_52 rfl ?_
  exact j165_53_ok hd hf
def fn165 (o0 : Option Nat) (x1 : Int32) (h : xH) : Option (Int32 × xH) := (xgI h o0 11 1).bind fun v_1 => (xpF h o0 11 1 .int (.int 0)).bind fun h_2 => (xcv h_2 o0 11).bind fun _ => (fn148 o0 x1 h_2).bind fun r_3 => (if r_3.1 = 0 then some ((-9), r_3.2) else (if v_1 ≤ 0 then j165_52 o0 x1 v_1 r_3.2 else (xgR r_3.2 o0 11 0).bind fun a_6 => (fn163 a_6 0 v_1 r_3.2).bind fun r_7 => (if r_7.1 = v_1 then (xgR r_7.2 o0 11 0).bind fun a_9 => (xcv r_7.2 o0 11).bind fun _ => (fn164 o0 x1 a_9 0 v_1 r_7.2).bind fun r_10 => j165_53 o0 x1 v_1 r_10.1 r_10.2 else j165_52 o0 x1 v_1 r_7.2)))
theorem fn165_call {xs : List Int32} {d : Nat} (hd : 6 ≤ d) {o0 : Option Nat} {x1 : Int32} {h : xH} {r : (Int32 × xH)} (hf : fn165 o0 x1 h = some r) : xCall (xTa xs) d 165 [xrv o0, .int x1] h (some (.int r.1), r.2) := by
  obtain ⟨d, rfl⟩ : ∃ d2, d = d2 + 1 := ⟨d - 1, by omega⟩
  replace hd : 5 ≤ d := by omega
  refine call_of2 (fl := [xrv o0, .int x1]) (Ls := [xrv o0, .int x1, .float 0]) m165 (by simp [xfl, xrv_cat, xc_i, xc_j, xc_a, xc_f]) (Nat.le_of_ble_eq_true rfl) rfl ?_
  unfold fn165 at hf
  refine sh_aload (i' := 0) (n := 1) i165_0 (Or.inr ⟨rfl, by decide⟩) rfl ?_
  obtain ⟨v_1, ev_1, hf⟩ := x_bind hf
  refine sh_getI i165_1 f165_146 ev_1 ?_
  refine sh_istore (i' := 2) (n := 1) i165_4 (Or.inr ⟨rfl, by decide⟩) (xokst_of (Nat.le_of_ble_eq_true rfl) rfl) ?_
  refine sh_aload (i' := 0) (n := 1) i165_5 (Or.inr ⟨rfl, by decide⟩) rfl ?_
  refine ev_do i165_6 rfl ?_
  obtain ⟨h_2, eh_2, hf⟩ := x_bind hf
  refine sh_put i165_7 f165_146 (by decide) rfl eh_2 ?_
  refine sh_aload (i' := 0) (n := 1) i165_10 (Or.inr ⟨rfl, by decide⟩) rfl ?_
  refine ev_do i165_11 rfl ?_
  obtain ⟨_, eu_12, hf⟩ := x_bind hf
  obtain ⟨r_3, er_3, hf⟩ := x_bind hf
  refine sh_inv (as := [.int x1]) (z := (some (.int r_3.1), r_3.2)) i165_12 v165_161 (Or.inl ⟨by decide, rfl⟩) m148 rfl (Nat.le_of_ble_eq_true rfl) eu_12 (fn148_call (by omega) er_3) ?_
  refine ev_if (t := 21) i165_15 rfl (fun c_4 => ?_) (fun c_4 => ?_)
  · replace hf := x_neg (show ¬ r_3.1 = 0 from c_4) hf
    refine ev_do i165_21 rfl ?_
    refine ev_if (t := 52) i165_22 rfl (fun c_5 => ?_) (fun c_5 => ?_)
    · replace hf := x_pos (show v_1 ≤ 0 from c_5) hf
      exact j165_52_ok hd hf
    · replace hf := x_neg (show ¬ v_1 ≤ 0 from c_5) hf
      refine sh_aload (i' := 0) (n := 1) i165_25 (Or.inr ⟨rfl, by decide⟩) rfl ?_
      obtain ⟨a_6, ea_6, hf⟩ := x_bind hf
      refine sh_getR i165_26 f165_9 ea_6 ?_
      refine ev_do i165_29 rfl ?_
      refine ev_do i165_30 rfl ?_
      obtain ⟨r_7, er_7, hf⟩ := x_bind hf
      refine ev_sta (as := [.int v_1, .int 0, xrv a_6]) (z := (some (.int r_7.1), r_7.2)) i165_31 v165_212 (Or.inl rfl) m163 rfl (Nat.le_of_ble_eq_true rfl) (fn163_call (by omega) er_7) ?_
      refine ev_do i165_34 rfl ?_
      refine ev_icmp (t := 52) i165_35 rfl (fun c_8 => ?_) (fun c_8 => ?_)
      · replace hf := x_neg (show ¬ r_7.1 = v_1 from c_8) hf
        exact j165_52_ok hd hf
      · replace hf := x_pos (show r_7.1 = v_1 from Decidable.byContradiction (fun h9 => c_8 h9)) hf
        refine sh_aload (i' := 0) (n := 1) i165_38 (Or.inr ⟨rfl, by decide⟩) rfl ?_
        refine ev_do i165_39 rfl ?_
        refine sh_aload (i' := 0) (n := 1) i165_40 (Or.inr ⟨rfl, by decide⟩) rfl ?_
        obtain ⟨a_9, ea_9, hf⟩ := x_bind hf
        refine sh_getR i165_41 f165_9 ea_9 ?_
        refine ev_do i165_44 rfl ?_
        refine ev_do i165_45 rfl ?_
        obtain ⟨_, eu_11, hf⟩ := x_bind hf
        obtain ⟨r_10, er_10, hf⟩ := x_bind hf
        refine sh_inv (as := [.int v_1, .int 0, xrv a_9, .int x1]) (z := (some (.int r_10.1), r_10.2)) i165_46 v165_215 (Or.inl ⟨by decide, rfl⟩) m164 rfl (Nat.le_of_ble_eq_true rfl) eu_11 (fn164_call (by omega) er_10) ?_
        refine sh_goto (t := 53) i165_49 rfl ?_
        exact j165_53_ok hd hf
  · replace hf := x_pos (show r_3.1 = 0 from Decidable.byContradiction (fun h9 => c_4 h9)) hf
    refine ev_do i165_18 rfl ?_
    obtain rfl := Option.some.inj hf
    exact sh_iret i165_20 m165 rfl rfl
end
