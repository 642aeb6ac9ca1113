section
def j12_12  (o0 : Option Nat) (s0 : Int32) (h : xH) : Option (Int32 × xH) := (if s0 &&& 1 = s0 then some (s0, h) else none)
theorem j12_12_ok {xs : List Int32} {d : Nat} (hd : 1 ≤ d) {o0 : Option Nat} {s0 : Int32} {h : xH} {r : (Int32 × xH)} (hf : j12_12 o0 s0 h = some r) : xEv (xTa xs) d 12 (12, [xrv o0], [.int s0], h) (some (.int r.1), r.2) := by
  unfold j12_12 at hf
  by_cases c_1 : s0 &&& 1 = s0
  · replace hf := x_pos c_1 hf
    obtain rfl := Option.some.inj hf
    exact sh_iret i12_12 m12 rfl (congrArg Value.int c_1)
  · replace hf := x_neg c_1 hf
    cases hf
def fn12 (o0 : Option Nat) (h : xH) : Option (Int32 × xH) := (xgR h o0 2 2).bind fun a_1 => (if a_1 = none then j12_12 o0 1 h else j12_12 o0 0 h)
theorem fn12_call {xs : List Int32} {d : Nat} (hd : 2 ≤ d) {o0 : Option Nat} {h : xH} {r : (Int32 × xH)} (hf : fn12 o0 h = some r) : xCall (xTa xs) d 12 [xrv o0] h (some (.int r.1), r.2) := by
  obtain ⟨d, rfl⟩ : ∃ d2, d = d2 + 1 := ⟨d - 1, by omega⟩
  replace hd : 1 ≤ d := by omega
  refine call_of2 (fl := [xrv o0]) (Ls := [xrv o0]) m12 (by simp [xfl, xrv_cat, xc_i, xc_j, xc_a, xc_f]) (Nat.le_of_ble_eq_true rfl) rfl ?_
  unfold fn12 at hf
  refine sh_aload (i' := 0) (n := 1) i12_0 (Or.inr ⟨rfl, by decide⟩) rfl ?_
  obtain ⟨a_1, ea_1, hf⟩ := x_bind hf
  refine sh_getR i12_1 f12_15 ea_1 ?_
  refine sh_nnul (t := 11) i12_4 rfl (fun c_2 => ?_) (fun c_2 => ?_)
  · replace hf := x_pos c_2 hf
    refine ev_do i12_7 rfl ?_
    refine sh_goto (t := 12) i12_8 rfl ?_
    exact j12_12_ok hd hf
  · replace hf := x_neg c_2 hf
    refine ev_do i12_11 rfl ?_
    exact j12_12_ok hd hf
end
section
def j13_15  (o0 : Option Nat) (s0 : Option Nat) (h : xH) : Option (Option Nat × xH) := some (s0, h)
theorem j13_15_ok {xs : List Int32} {d : Nat} (hd : 1 ≤ d) {o0 : Option Nat} {s0 : Option Nat} {h : xH} {r : (Option Nat × xH)} (hf : j13_15 o0 s0 h = some r) : xEv (xTa xs) d 13 (15, [xrv o0], [xrv s0], h) (some (xrv r.1), r.2) := by
  unfold j13_15 at hf
  obtain rfl := Option.some.inj hf
  exact sh_aret i13_15 m13 rfl
def fn13 (o0 : Option Nat) (h : xH) : Option (Option Nat × xH) := (xgR h o0 2 2).bind fun a_1 => (if a_1 = none then j13_15 o0 o0 h else (xgR h o0 2 2).bind fun a_3 => j13_15 o0 a_3 h)
theorem fn13_call {xs : List Int32} {d : Nat} (hd : 2 ≤ d) {o0 : Option Nat} {h : xH} {r : (Option Nat × xH)} (hf : fn13 o0 h = some r) : xCall (xTa xs) d 13 [xrv o0] h (some (xrv r.1), r.2) := by
  obtain ⟨d, rfl⟩ : ∃ d2, d = d2 + 1 := ⟨d - 1, by omega⟩
  replace hd : 1 ≤ d := by omega
  refine call_of2 (fl := [xrv o0]) (Ls := [xrv o0]) m13 (by simp [xfl, xrv_cat, xc_i, xc_j, xc_a, xc_f]) (Nat.le_of_ble_eq_true rfl) rfl ?_
  unfold fn13 at hf
  refine sh_aload (i' := 0) (n := 1) i13_0 (Or.inr ⟨rfl, by decide⟩) rfl ?_
  obtain ⟨a_1, ea_1, hf⟩ := x_bind hf
  refine sh_getR i13_1 f13_15 ea_1 ?_
  refine sh_nnul (t := 11) i13_4 rfl (fun c_2 => ?_) (fun c_2 => ?_)
  · replace hf := x_pos c_2 hf
    refine sh_aload (i' := 0) (n := 1) i13_7 (Or.inr ⟨rfl, by decide⟩) rfl ?_
    refine sh_goto (t := 15) i13_8 rfl ?_
    exact j13_15_ok hd hf
  · replace hf := x_neg c_2 hf
    refine sh_aload (i' := 0) (n := 1) i13_11 (Or.inr ⟨rfl, by decide⟩) rfl ?_
    obtain ⟨a_3, ea_3, hf⟩ := x_bind hf
    refine sh_getR i13_12 f13_15 ea_3 ?_
    exact j13_15_ok hd hf
end
section
def j14_15  (o0 : Option Nat) (s0 : Option Nat) (h : xH) : Option (Option Nat × xH) := some (s0, h)
theorem j14_15_ok {xs : List Int32} {d : Nat} (hd : 1 ≤ d) {o0 : Option Nat} {s0 : Option Nat} {h : xH} {r : (Option Nat × xH)} (hf : j14_15 o0 s0 h = some r) : xEv (xTa xs) d 14 (15, [xrv o0], [xrv s0], h) (some (xrv r.1), r.2) := by
  unfold j14_15 at hf
  obtain rfl := Option.some.inj hf
  exact sh_aret i14_15 m14 rfl
def fn14 (o0 : Option Nat) (h : xH) : Option (Option Nat × xH) := (xgI h o0 2 8).bind fun v_1 => (if v_1 = 0 then j14_15 o0 none h else (xgR h o0 2 7).bind fun a_3 => j14_15 o0 a_3 h)
theorem fn14_call {xs : List Int32} {d : Nat} (hd : 2 ≤ d) {o0 : Option Nat} {h : xH} {r : (Option Nat × xH)} (hf : fn14 o0 h = some r) : xCall (xTa xs) d 14 [xrv o0] h (some (xrv r.1), r.2) := by
  obtain ⟨d, rfl⟩ : ∃ d2, d = d2 + 1 := ⟨d - 1, by omega⟩
  replace hd : 1 ≤ d := by omega
  refine call_of2 (fl := [xrv o0]) (Ls := [xrv o0]) m14 (by simp [xfl, xrv_cat, xc_i, xc_j, xc_a, xc_f]) (Nat.le_of_ble_eq_true rfl) rfl ?_
  unfold fn14 at hf
  refine sh_aload (i' := 0) (n := 1) i14_0 (Or.inr ⟨rfl, by decide⟩) rfl ?_
  obtain ⟨v_1, ev_1, hf⟩ := x_bind hf
  refine sh_getI i14_1 f14_39 ev_1 ?_
  refine ev_if (t := 14) i14_4 rfl (fun c_2 => ?_) (fun c_2 => ?_)
  · replace hf := x_pos (show v_1 = 0 from c_2) hf
    refine sh_cnull i14_14 ?_
    exact j14_15_ok hd hf
  · replace hf := x_neg (show ¬ v_1 = 0 from c_2) hf
    refine sh_aload (i' := 0) (n := 1) i14_7 (Or.inr ⟨rfl, by decide⟩) rfl ?_
    obtain ⟨a_3, ea_3, hf⟩ := x_bind hf
    refine sh_getR i14_8 f14_42 ea_3 ?_
    refine sh_goto (t := 15) i14_11 rfl ?_
    exact j14_15_ok hd hf
end
section
def j15_22  (o0 : Option Nat) (x1 : Int32) (s0 : Option Nat) (h : xH) : Option (Option Nat × xH) := some (s0, h)
theorem j15_22_ok {xs : List Int32} {d : Nat} (hd : 1 ≤ d) {o0 : Option Nat} {x1 : Int32} {s0 : Option Nat} {h : xH} {r : (Option Nat × xH)} (hf : j15_22 o0 x1 s0 h = some r) : xEv (xTa xs) d 15 (22, [xrv o0, .int x1], [xrv s0], h) (some (xrv r.1), r.2) := by
  unfold j15_22 at hf
  obtain rfl := Option.some.inj hf
  exact sh_aret i15_22 m15 rfl
def j15_12  (o0 : Option Nat) (x1 : Int32) (h : xH) : Option (Option Nat × xH) := j15_22 o0 x1 none h
theorem j15_12_ok {xs : List Int32} {d : Nat} (hd : 1 ≤ d) {o0 : Option Nat} {x1 : Int32} {h : xH} {r : (Option Nat × xH)} (hf : j15_12 o0 x1 h = some r) : xEv (xTa xs) d 15 (12, [xrv o0, .int x1], [], h) (some (xrv r.1), r.2) := by
  unfold j15_12 at hf
  refine sh_cnull i15_12 ?_
  refine sh_goto (t := 22) i15_13 rfl ?_
  exact j15_22_ok hd hf
def fn15 (o0 : Option Nat) (x1 : Int32) (h : xH) : Option (Option Nat × xH) := (if x1 < 0 then j15_12 o0 x1 h else (xgI h o0 2 6).bind fun v_2 => (if x1 < v_2 then (xgR h o0 2 5).bind fun a_4 => (xaR h a_4 x1).bind fun a_5 => j15_22 o0 x1 a_5 h else j15_12 o0 x1 h))
theorem fn15_call {xs : List Int32} {d : Nat} (hd : 2 ≤ d) {o0 : Option Nat} {x1 : Int32} {h : xH} {r : (Option Nat × xH)} (hf : fn15 o0 x1 h = some r) : xCall (xTa xs) d 15 [xrv o0, .int x1] h (some (xrv r.1), r.2) := by
  obtain ⟨d, rfl⟩ : ∃ d2, d = d2 + 1 := ⟨d - 1, by omega⟩
  replace hd : 1 ≤ d := by omega
  refine call_of2 (fl := [xrv o0, .int x1]) (Ls := [xrv o0, .int x1]) m15 (by simp [xfl, xrv_cat, xc_i, xc_j, xc_a, xc_f]) (Nat.le_of_ble_eq_true rfl) rfl ?_
  unfold fn15 at hf
  refine ev_do i15_0 rfl ?_
  refine ev_if (t := 12) i15_1 rfl (fun c_1 => ?_) (fun c_1 => ?_)
  · replace hf := x_pos (show x1 < 0 from c_1) hf
    exact j15_12_ok hd hf
  · replace hf := x_neg (show ¬ x1 < 0 from c_1) hf
    refine ev_do i15_4 rfl ?_
    refine sh_aload (i' := 0) (n := 1) i15_5 (Or.inr ⟨rfl, by decide⟩) rfl ?_
    obtain ⟨v_2, ev_2, hf⟩ := x_bind hf
    refine sh_getI i15_6 f15_46 ev_2 ?_
    refine ev_icmp (t := 16) i15_9 rfl (fun c_3 => ?_) (fun c_3 => ?_)
    · replace hf := x_pos (show x1 < v_2 from c_3) hf
      refine sh_aload (i' := 0) (n := 1) i15_16 (Or.inr ⟨rfl, by decide⟩) rfl ?_
      obtain ⟨a_4, ea_4, hf⟩ := x_bind hf
      refine sh_getR i15_17 f15_35 ea_4 ?_
      refine ev_do i15_20 rfl ?_
      obtain ⟨a_5, ea_5, hf⟩ := x_bind hf
      refine sh_aldR i15_21 ea_5 ?_
      exact j15_22_ok hd hf
    · replace hf := x_neg (show ¬ x1 < v_2 from c_3) hf
      exact j15_12_ok hd hf
end
section
def j16_38 (k3 : Option Nat → Option Nat → Int32 → Int32 → Int32 → xH → Option (Int32 × xH)) (o0 : Option Nat) (o1 : Option Nat) (x2 : Int32) (x3 : Int32) (x4 : Int32) (o5 : Option Nat) (h : xH) : Option (Int32 × xH) := k3 o0 o1 x2 x3 (x4 + 1) h
theorem j16_38_ok {xs : List Int32} {d : Nat} (hd : 2 ≤ d) {k3 : Option Nat → Option Nat → Int32 → Int32 → Int32 → xH → Option (Int32 × xH)} (hk3 : ∀ {u5 : Value} {o0 : Option Nat} {o1 : Option Nat} {x2 : Int32} {x3 : Int32} {x4 : Int32} {h : xH} {r : (Int32 × xH)}, u5.category = 1 → k3 o0 o1 x2 x3 x4 h = some r → xEv (xTa xs) d 16 (3, [xrv o0, xrv o1, .int x2, .int x3, .int x4, u5], [], h) (some (.int r.1), r.2)) {o0 : Option Nat} {o1 : Option Nat} {x2 : Int32} {x3 : Int32} {x4 : Int32} {o5 : Option Nat} {h : xH} {r : (Int32 × xH)} (hf : j16_38 k3 o0 o1 x2 x3 x4 o5 h = some r) : xEv (xTa xs) d 16 (38, [xrv o0, xrv o1, .int x2, .int x3, .int x4, xrv o5], [], h) (some (.int r.1), r.2) := by
  unfold j16_38 at hf
  refine sh_inc (i' := 4) i16_38 rfl (xokst_of (Nat.le_of_ble_eq_true rfl) rfl) rfl ?_
  refine sh_goto (t := 3) i16_41 rfl ?_
  exact hk3 (xrv_cat (o5)) hf
def l16_3  : Nat → Option Nat → Option Nat → Int32 → Int32 → Int32 → xH → Option (Int32 × xH)
  | 0 => fun _ _ _ _ _ _ => none
  | n + 1 => fun o0 o1 x2 x3 x4 h => (xgI h o0 2 6).bind fun v_1 => (if v_1 ≤ x4 then some (0, h) else (xcv h o0 2).bind fun _ => (fn15 o0 x4 h).bind fun r_3 => (if r_3.1 = none then j16_38 (l16_3 n) o0 o1 x2 x3 x4 r_3.1 r_3.2 else (xcv r_3.2 r_3.1 9).bind fun _ => (fn103 r_3.1 o1 x2 x3 r_3.2).bind fun r_5 => (if r_5.1 = 0 then j16_38 (l16_3 n) o0 o1 x2 x3 x4 r_3.1 r_5.2 else some (1, r_5.2))))
theorem l16_3_ok {xs : List Int32} {d : Nat} (hd : 2 ≤ d) : ∀ (n : Nat) {u5 : Value} {o0 : Option Nat} {o1 : Option Nat} {x2 : Int32} {x3 : Int32} {x4 : Int32} {h : xH} {r : (Int32 × xH)} (hu5 : u5.category = 1), l16_3 n o0 o1 x2 x3 x4 h = some r → xEv (xTa xs) d 16 (3, [xrv o0, xrv o1, .int x2, .int x3, .int x4, u5], [], h) (some (.int r.1), r.2) := by
  intro n
  induction n with
  | zero => intros; rename_i hf; cases hf
  | succ n ih =>
    intro u5 o0 o1 x2 x3 x4 h r hu5 hf
    replace hf : ((xgI h o0 2 6).bind fun v_1 => (if v_1 ≤ x4 then some (0, h) else (xcv h o0 2).bind fun _ => (fn15 o0 x4 h).bind fun r_3 => (if r_3.1 = none then j16_38 (l16_3 n) o0 o1 x2 x3 x4 r_3.1 r_3.2 else (xcv r_3.2 r_3.1 9).bind fun _ => (fn103 r_3.1 o1 x2 x3 r_3.2).bind fun r_5 => (if r_5.1 = 0 then j16_38 (l16_3 n) o0 o1 x2 x3 x4 r_3.1 r_5.2 else some (1, r_5.2))))) = some r := hf
    refine ev_do i16_3 rfl ?_
    refine sh_aload (i' := 0) (n := 1) i16_5 (Or.inr ⟨rfl, by decide⟩) rfl ?_
    obtain ⟨v_1, ev_1, hf⟩ := x_bind hf
    refine sh_getI i16_6 f16_46 ev_1 ?_
    refine ev_icmp (t := 44) i16_9 rfl (fun c_2 => ?_) (fun c_2 => ?_)
    · replace hf := x_pos (show v_1 ≤ x4 from c_2) hf
      refine ev_do i16_44 rfl ?_
      obtain rfl := Option.some.inj hf
      exact sh_iret i16_45 m16 rfl (by decide)
    · replace hf := x_neg (show ¬ v_1 ≤ x4 from c_2) hf
      refine sh_aload (i' := 0) (n := 1) i16_12 (Or.inr ⟨rfl, by decide⟩) rfl ?_
      refine ev_do i16_13 rfl ?_
      obtain ⟨_, eu_8, hf⟩ := x_bind hf
      obtain ⟨r_3, er_3, hf⟩ := x_bind hf
      refine sh_inv (as := [.int x4]) (z := (some (xrv r_3.1), r_3.2)) i16_15 v16_49 (Or.inl ⟨by decide, rfl⟩) m15 rfl (Nat.le_of_ble_eq_true rfl) eu_8 (fn15_call (by omega) er_3) ?_
      refine sh_astore (i' := 5) (n := 2) i16_18 (Or.inl rfl) (xokst_of (Nat.le_of_ble_eq_true rfl) rfl) ?_
      refine sh_aload (i' := 5) (n := 2) i16_20 (Or.inl rfl) rfl ?_
      refine sh_null (t := 38) i16_22 rfl (fun c_4 => ?_) (fun c_4 => ?_)
      · replace hf := x_pos c_4 hf
        exact j16_38_ok hd ih hf
      · replace hf := x_neg c_4 hf
        refine sh_aload (i' := 5) (n := 2) i16_25 (Or.inl rfl) rfl ?_
        refine sh_aload (i' := 1) (n := 1) i16_27 (Or.inr ⟨rfl, by decide⟩) rfl ?_
        refine ev_do i16_28 rfl ?_
        refine ev_do i16_29 rfl ?_
        obtain ⟨_, eu_7, hf⟩ := x_bind hf
        obtain ⟨r_5, er_5, hf⟩ := x_bind hf
        refine sh_inv (as := [.int x3, .int x2, xrv o1]) (z := (some (.int r_5.1), r_5.2)) i16_30 v16_53 (Or.inl ⟨by decide, rfl⟩) m103 rfl (Nat.le_of_ble_eq_true rfl) eu_7 (fn103_call (by omega) er_5) ?_
        refine ev_if (t := 38) i16_33 rfl (fun c_6 => ?_) (fun c_6 => ?_)
        · replace hf := x_pos (show r_5.1 = 0 from c_6) hf
          exact j16_38_ok hd ih hf
        · replace hf := x_neg (show ¬ r_5.1 = 0 from c_6) hf
          refine ev_do i16_36 rfl ?_
          obtain rfl := Option.some.inj hf
          exact sh_iret i16_37 m16 rfl (by decide)
def fn16 (o0 : Option Nat) (o1 : Option Nat) (x2 : Int32) (x3 : Int32) (h : xH) : Option (Int32 × xH) := l16_3 xFuel o0 o1 x2 x3 0 h
theorem fn16_call {xs : List Int32} {d : Nat} (hd : 3 ≤ d) {o0 : Option Nat} {o1 : Option Nat} {x2 : Int32} {x3 : Int32} {h : xH} {r : (Int32 × xH)} (hf : fn16 o0 o1 x2 x3 h = some r) : xCall (xTa xs) d 16 [xrv o0, xrv o1, .int x2, .int x3] h (some (.int r.1), r.2) := by
  obtain ⟨d, rfl⟩ : ∃ d2, d = d2 + 1 := ⟨d - 1, by omega⟩
  replace hd : 2 ≤ d := by omega
  refine call_of2 (fl := [xrv o0, xrv o1, .int x2, .int x3]) (Ls := [xrv o0, xrv o1, .int x2, .int x3, .float 0, .float 0]) m16 (by simp [xfl, xrv_cat, xc_i, xc_j, xc_a, xc_f]) (Nat.le_of_ble_eq_true rfl) rfl ?_
  unfold fn16 at hf
  refine ev_do i16_0 rfl ?_
  refine sh_istore (i' := 4) (n := 2) i16_1 (Or.inl rfl) (xokst_of (Nat.le_of_ble_eq_true rfl) rfl) ?_
  exact l16_3_ok hd xFuel rfl hf
end
section
def fn17 (o0 : Option Nat) (o1 : Option Nat) (h : xH) : Option (Int32 × xH) := (xgI h o0 2 6).bind fun v_1 => (xgR h o0 2 5).bind fun a_2 => (xaN h a_2).bind fun v_3 => (if v_1 < v_3 then (some (xnew h (9, [.null, .int 0]))).bind fun h_5 => (xcv h_5 (some h.1) 9).bind fun _ => (fn95 (some h.1) 10 h_5).bind fun h_6 => (xcv h_6 (some h.1) 9).bind fun _ => (fn102 (some h.1) o1 h_6).bind fun h_7 => (xgR h_7 o0 2 5).bind fun a_8 => (xgI h_7 o0 2 6).bind fun v_9 => (xaT h_7 a_8 v_9 (some h.1)).bind fun h_10 => (xgI h_10 o0 2 6).bind fun v_11 => (xpF h_10 o0 2 6 .int (.int (v_11 + 1))).bind fun h_12 => (xgI h_12 o0 2 6).bind fun v_13 => some (v_13, h_12) else some ((-3), h))
theorem fn17_call {xs : List Int32} {d : Nat} (hd : 5 ≤ d) {o0 : Option Nat} {o1 : Option Nat} {h : xH} {r : (Int32 × xH)} (hf : fn17 o0 o1 h = some r) : xCall (xTa xs) d 17 [xrv o0, xrv o1] h (some (.int r.1), r.2) := by
  obtain ⟨d, rfl⟩ : ∃ d2, d = d2 + 1 := ⟨d - 1, by omega⟩
  replace hd : 4 ≤ d := by omega
  refine call_of2 (fl := [xrv o0, xrv o1]) (Ls := [xrv o0, xrv o1, .float 0]) m17 (by simp [xfl, xrv_cat, xc_i, xc_j, xc_a, xc_f]) (Nat.le_of_ble_eq_true rfl) rfl ?_
  unfold fn17 at hf
  refine sh_aload (i' := 0) (n := 1) i17_0 (Or.inr ⟨rfl, by decide⟩) rfl ?_
  obtain ⟨v_1, ev_1, hf⟩ := x_bind hf
  refine sh_getI i17_1 f17_46 ev_1 ?_
  refine sh_aload (i' := 0) (n := 1) i17_4 (Or.inr ⟨rfl, by decide⟩) rfl ?_
  obtain ⟨a_2, ea_2, hf⟩ := x_bind hf
  refine sh_getR i17_5 f17_35 ea_2 ?_
  obtain ⟨v_3, ev_3, hf⟩ := x_bind hf
  refine sh_len i17_8 ev_3 ?_
  refine ev_icmp (t := 15) i17_9 rfl (fun c_4 => ?_) (fun c_4 => ?_)
  · replace hf := x_pos (show v_1 < v_3 from c_4) hf
    obtain ⟨h_5, eh_5, hf⟩ := x_bind hf
    refine sh_new (fs := [.null, .int 0]) i17_15 c17_26 (by decide) rfl ?_
    rw [Option.some.inj eh_5]
    refine sh_dup i17_18 (xrv_cat (some h.1)) ?_
    refine ev_do i17_19 rfl ?_
    obtain ⟨_, eu_15, hf⟩ := x_bind hf
    obtain ⟨h_6, eh_6, hf⟩ := x_bind hf
    refine sh_inv (as := [.int 10]) (z := (none, h_6)) i17_21 v17_28 (Or.inr ⟨by decide, rfl⟩) m95 rfl (by simp [xcat, xrv_cat, xc_i, xc_j, xc_a, xc_f]) eu_15 (fn95_call (by omega) eh_6) ?_
    refine sh_astore (i' := 2) (n := 1) i17_24 (Or.inr ⟨rfl, by decide⟩) (xokst_of (Nat.le_of_ble_eq_true rfl) (xrv_cat (o1))) ?_
    refine sh_aload (i' := 2) (n := 1) i17_25 (Or.inr ⟨rfl, by decide⟩) rfl ?_
    refine sh_aload (i' := 1) (n := 1) i17_26 (Or.inr ⟨rfl, by decide⟩) rfl ?_
    obtain ⟨_, eu_14, hf⟩ := x_bind hf
    obtain ⟨h_7, eh_7, hf⟩ := x_bind hf
    refine sh_inv (as := [xrv o1]) (z := (none, h_7)) i17_27 v17_57 (Or.inl ⟨by decide, rfl⟩) m102 rfl (Nat.le_of_ble_eq_true rfl) eu_14 (fn102_call (by omega) eh_7) ?_
    refine sh_aload (i' := 0) (n := 1) i17_30 (Or.inr ⟨rfl, by decide⟩) rfl ?_
    obtain ⟨a_8, ea_8, hf⟩ := x_bind hf
    refine sh_getR i17_31 f17_35 ea_8 ?_
    refine sh_aload (i' := 0) (n := 1) i17_34 (Or.inr ⟨rfl, by decide⟩) rfl ?_
    obtain ⟨v_9, ev_9, hf⟩ := x_bind hf
    refine sh_getI i17_35 f17_46 ev_9 ?_
    refine sh_aload (i' := 2) (n := 1) i17_38 (Or.inr ⟨rfl, by decide⟩) rfl ?_
    obtain ⟨h_10, eh_10, hf⟩ := x_bind hf
    refine sh_asT i17_39 eh_10 ?_
    refine sh_aload (i' := 0) (n := 1) i17_40 (Or.inr ⟨rfl, by decide⟩) rfl ?_
    refine sh_dup i17_41 (xrv_cat (o0)) ?_
    obtain ⟨v_11, ev_11, hf⟩ := x_bind hf
    refine sh_getI i17_42 f17_46 ev_11 ?_
    refine ev_do i17_45 rfl ?_
    refine ev_do i17_46 rfl ?_
    obtain ⟨h_12, eh_12, hf⟩ := x_bind hf
    refine sh_put i17_47 f17_46 (by decide) rfl eh_12 ?_
    refine sh_aload (i' := 0) (n := 1) i17_50 (Or.inr ⟨rfl, by decide⟩) rfl ?_
    obtain ⟨v_13, ev_13, hf⟩ := x_bind hf
    refine sh_getI i17_51 f17_46 ev_13 ?_
    obtain rfl := Option.some.inj hf
    exact sh_iret i17_54 m17 rfl rfl
  · replace hf := x_neg (show ¬ v_1 < v_3 from c_4) hf
    refine ev_do i17_12 rfl ?_
    obtain rfl := Option.some.inj hf
    exact sh_iret i17_14 m17 rfl rfl
end
section
def fn18 (o0 : Option Nat) (h : xH) : Option xH := (o0).bind fun a_1 => (xnA h 15 .null 960).bind fun h_2 => (xpF h_2 o0 3 0 (.array (.object "DocFormat$Block")) (xrv (some h.1))).bind fun h_3 => (some (xnew h_3 (9, [.null, .int 0]))).bind fun h_4 => (xcv h_4 (some h_3.1) 9).bind fun _ => (fn95 (some h_3.1) 1200 h_4).bind fun h_5 => (xpF h_5 o0 3 2 (.object "DocFormat$Text") (xrv (some h_3.1))).bind fun h_6 => (xnA h_6 13 (.int 0) 122).bind fun h_7 => (xpF h_7 o0 3 3 (.array .int) (xrv (some h_6.1))).bind fun h_8 => (xnA h_8 13 (.int 0) 122).bind fun h_9 => (xpF h_9 o0 3 5 (.array .int) (xrv (some h_8.1))).bind fun h_10 => (xnA h_10 13 (.int 0) 122).bind fun h_11 => (xpF h_11 o0 3 6 (.array .int) (xrv (some h_10.1))).bind fun h_12 => some h_12
theorem fn18_call {xs : List Int32} {d : Nat} (hd : 3 ≤ d) {o0 : Option Nat} {h : xH} {r : xH} (hf : fn18 o0 h = some r) : xCall (xTa xs) d 18 [xrv o0] h (none, r) := by
  obtain ⟨d, rfl⟩ : ∃ d2, d = d2 + 1 := ⟨d - 1, by omega⟩
  replace hd : 2 ≤ d := by omega
  refine call_of2 (fl := [xrv o0]) (Ls := [xrv o0]) m18 (by simp [xfl, xrv_cat, xc_i, xc_j, xc_a, xc_f]) (Nat.le_of_ble_eq_true rfl) rfl ?_
  unfold fn18 at hf
  refine sh_aload (i' := 0) (n := 1) i18_0 (Or.inr ⟨rfl, by decide⟩) rfl ?_
  obtain ⟨a_1, ea_1, hf⟩ := x_bind hf
  refine sh_obj i18_1 v18_3 (Nat.le_of_ble_eq_true rfl) ea_1 ?_
  refine sh_aload (i' := 0) (n := 1) i18_4 (Or.inr ⟨rfl, by decide⟩) rfl ?_
  refine ev_do i18_5 rfl ?_
  obtain ⟨h_2, eh_2, hf⟩ := x_bind hf
  refine sh_newa (tg := 15) (n := 3) (v := .null) i18_8 (fun _ _ _ => by show (match xtA (xTa xs) 18 9 with | some tg => if 15 ≤ tg ∧ tg < 19 then xmka tg 3 .null _ _ _ _ else none | none => none) = _; rw [a18_9]; rfl) eh_2 ?_
  obtain ⟨h_3, eh_3, hf⟩ := x_bind hf
  refine sh_put i18_11 f18_11 (by decide) rfl eh_3 ?_
  refine sh_aload (i' := 0) (n := 1) i18_14 (Or.inr ⟨rfl, by decide⟩) rfl ?_
  obtain ⟨h_4, eh_4, hf⟩ := x_bind hf
  refine sh_new (fs := [.null, .int 0]) i18_15 c18_17 (by decide) rfl ?_
  rw [Option.some.inj eh_4]
  refine sh_dup i18_18 (xrv_cat (some h_3.1)) ?_
  refine ev_do i18_19 rfl ?_
  obtain ⟨_, eu_13, hf⟩ := x_bind hf
  obtain ⟨h_5, eh_5, hf⟩ := x_bind hf
  refine sh_inv (as := [.int 1200]) (z := (none, h_5)) i18_22 v18_19 (Or.inr ⟨by decide, rfl⟩) m95 rfl (by simp [xcat, xrv_cat, xc_i, xc_j, xc_a, xc_f]) eu_13 (fn95_call (by omega) eh_5) ?_
  obtain ⟨h_6, eh_6, hf⟩ := x_bind hf
  refine sh_put i18_25 f18_22 (by decide) rfl eh_6 ?_
  refine sh_aload (i' := 0) (n := 1) i18_28 (Or.inr ⟨rfl, by decide⟩) rfl ?_
  refine ev_do i18_29 rfl ?_
  obtain ⟨h_7, eh_7, hf⟩ := x_bind hf
  refine sh_newa (tg := 13) (n := 2) (v := (.int 0)) i18_31 (fun _ _ _ => rfl) eh_7 ?_
  obtain ⟨h_8, eh_8, hf⟩ := x_bind hf
  refine sh_put i18_33 f18_26 (by decide) rfl eh_8 ?_
  refine sh_aload (i' := 0) (n := 1) i18_36 (Or.inr ⟨rfl, by decide⟩) rfl ?_
  refine ev_do i18_37 rfl ?_
  obtain ⟨h_9, eh_9, hf⟩ := x_bind hf
  refine sh_newa (tg := 13) (n := 2) (v := (.int 0)) i18_39 (fun _ _ _ => rfl) eh_9 ?_
  obtain ⟨h_10, eh_10, hf⟩ := x_bind hf
  refine sh_put i18_41 f18_30 (by decide) rfl eh_10 ?_
  refine sh_aload (i' := 0) (n := 1) i18_44 (Or.inr ⟨rfl, by decide⟩) rfl ?_
  refine ev_do i18_45 rfl ?_
  obtain ⟨h_11, eh_11, hf⟩ := x_bind hf
  refine sh_newa (tg := 13) (n := 2) (v := (.int 0)) i18_47 (fun _ _ _ => rfl) eh_11 ?_
  obtain ⟨h_12, eh_12, hf⟩ := x_bind hf
  refine sh_put i18_49 f18_33 (by decide) rfl eh_12 ?_
  obtain rfl := Option.some.inj hf
  exact sh_vret i18_52 m18 rfl
end
section
def fn19 (o0 : Option Nat) (h : xH) : Option xH := (xpF h o0 3 1 .int (.int 0)).bind fun h_1 => some h_1
theorem fn19_call {xs : List Int32} {d : Nat} (hd : 2 ≤ d) {o0 : Option Nat} {h : xH} {r : xH} (hf : fn19 o0 h = some r) : xCall (xTa xs) d 19 [xrv o0] h (none, r) := by
  obtain ⟨d, rfl⟩ : ∃ d2, d = d2 + 1 := ⟨d - 1, by omega⟩
  replace hd : 1 ≤ d := by omega
  refine call_of2 (fl := [xrv o0]) (Ls := [xrv o0]) m19 (by simp [xfl, xrv_cat, xc_i, xc_j, xc_a, xc_f]) (Nat.le_of_ble_eq_true rfl) rfl ?_
  unfold fn19 at hf
  refine sh_aload (i' := 0) (n := 1) i19_0 (Or.inr ⟨rfl, by decide⟩) rfl ?_
  refine ev_do i19_1 rfl ?_
  obtain ⟨h_1, eh_1, hf⟩ := x_bind hf
  refine sh_put i19_2 f19_36 (by decide) rfl eh_1 ?_
  obtain rfl := Option.some.inj hf
  exact sh_vret i19_5 m19 rfl
end
section
def j22_32  (o0 : Option Nat) (o1 : Option Nat) (h : xH) : Option xH := some h
theorem j22_32_ok {xs : List Int32} {d : Nat} (hd : 1 ≤ d) {o0 : Option Nat} {o1 : Option Nat} {h : xH} {r : xH} (hf : j22_32 o0 o1 h = some r) : xEv (xTa xs) d 22 (32, [xrv o0, xrv o1], [], h) (none, r) := by
  unfold j22_32 at hf
  obtain rfl := Option.some.inj hf
  exact sh_vret i22_32 m22 rfl
def fn22 (o0 : Option Nat) (o1 : Option Nat) (h : xH) : Option xH := (xgI h o0 3 1).bind fun v_1 => (xgR h o0 3 0).bind fun a_2 => (xaN h a_2).bind fun v_3 => (if v_3 ≤ v_1 then j22_32 o0 o1 h else (xgR h o0 3 0).bind fun a_5 => (xgI h o0 3 1).bind fun v_6 => (xaT h a_5 v_6 o1).bind fun h_7 => (xgI h_7 o0 3 1).bind fun v_8 => (xpF h_7 o0 3 1 .int (.int (v_8 + 1))).bind fun h_9 => j22_32 o0 o1 h_9)
theorem fn22_call {xs : List Int32} {d : Nat} (hd : 2 ≤ d) {o0 : Option Nat} {o1 : Option Nat} {h : xH} {r : xH} (hf : fn22 o0 o1 h = some r) : xCall (xTa xs) d 22 [xrv o0, xrv o1] h (none, r) := by
  obtain ⟨d, rfl⟩ : ∃ d2, d = d2 + 1 := ⟨d - 1, by omega⟩
  replace hd : 1 ≤ d := by omega
  refine call_of2 (fl := [xrv o0, xrv o1]) (Ls := [xrv o0, xrv o1]) m22 (by simp [xfl, xrv_cat, xc_i, xc_j, xc_a, xc_f]) (Nat.le_of_ble_eq_true rfl) rfl ?_
  unfold fn22 at hf
  refine sh_aload (i' := 0) (n := 1) i22_0 (Or.inr ⟨rfl, by decide⟩) rfl ?_
  obtain ⟨v_1, ev_1, hf⟩ := x_bind hf
  refine sh_getI i22_1 f22_36 ev_1 ?_
  refine sh_aload (i' := 0) (n := 1) i22_4 (Or.inr ⟨rfl, by decide⟩) rfl ?_
  obtain ⟨a_2, ea_2, hf⟩ := x_bind hf
  refine sh_getR i22_5 f22_11 ea_2 ?_
  obtain ⟨v_3, ev_3, hf⟩ := x_bind hf
  refine sh_len i22_8 ev_3 ?_
  refine ev_icmp (t := 32) i22_9 rfl (fun c_4 => ?_) (fun c_4 => ?_)
  · replace hf := x_pos (show v_3 ≤ v_1 from c_4) hf
    exact j22_32_ok hd hf
  · replace hf := x_neg (show ¬ v_3 ≤ v_1 from c_4) hf
    refine sh_aload (i' := 0) (n := 1) i22_12 (Or.inr ⟨rfl, by decide⟩) rfl ?_
    obtain ⟨a_5, ea_5, hf⟩ := x_bind hf
    refine sh_getR i22_13 f22_11 ea_5 ?_
    refine sh_aload (i' := 0) (n := 1) i22_16 (Or.inr ⟨rfl, by decide⟩) rfl ?_
    obtain ⟨v_6, ev_6, hf⟩ := x_bind hf
    refine sh_getI i22_17 f22_36 ev_6 ?_
    refine sh_aload (i' := 1) (n := 1) i22_20 (Or.inr ⟨rfl, by decide⟩) rfl ?_
    obtain ⟨h_7, eh_7, hf⟩ := x_bind hf
    refine sh_asT i22_21 eh_7 ?_
    refine sh_aload (i' := 0) (n := 1) i22_22 (Or.inr ⟨rfl, by decide⟩) rfl ?_
    refine sh_dup i22_23 (xrv_cat (o0)) ?_
    obtain ⟨v_8, ev_8, hf⟩ := x_bind hf
    refine sh_getI i22_24 f22_36 ev_8 ?_
    refine ev_do i22_27 rfl ?_
    refine ev_do i22_28 rfl ?_
    obtain ⟨h_9, eh_9, hf⟩ := x_bind hf
    refine sh_put i22_29 f22_36 (by decide) rfl eh_9 ?_
    exact j22_32_ok hd hf
end
section
def j88_53 (k3 : Option Nat → Option Nat → Option Nat → Int32 → Int32 → Int32 → xH → Option (Option Nat × xH)) (o0 : Option Nat) (o1 : Option Nat) (o2 : Option Nat) (x3 : Int32) (x4 : Int32) (x5 : Int32) (o6 : Option Nat) (h : xH) : Option (Option Nat × xH) := k3 o0 o1 o2 x3 x4 (x5 + 1) h
theorem j88_53_ok {xs : List Int32} {d : Nat} (hd : 2 ≤ d) {k3 : Option Nat → Option Nat → Option Nat → Int32 → Int32 → Int32 → xH → Option (Option Nat × xH)} (hk3 : ∀ {u6 : Value} {o0 : Option Nat} {o1 : Option Nat} {o2 : Option Nat} {x3 : Int32} {x4 : Int32} {x5 : Int32} {h : xH} {r : (Option Nat × xH)}, u6.category = 1 → k3 o0 o1 o2 x3 x4 x5 h = some r → xEv (xTa xs) d 88 (3, [xrv o0, xrv o1, xrv o2, .int x3, .int x4, .int x5, u6], [], h) (some (xrv r.1), r.2)) {o0 : Option Nat} {o1 : Option Nat} {o2 : Option Nat} {x3 : Int32} {x4 : Int32} {x5 : Int32} {o6 : Option Nat} {h : xH} {r : (Option Nat × xH)} (hf : j88_53 k3 o0 o1 o2 x3 x4 x5 o6 h = some r) : xEv (xTa xs) d 88 (53, [xrv o0, xrv o1, xrv o2, .int x3, .int x4, .int x5, xrv o6], [], h) (some (xrv r.1), r.2) := by
  unfold j88_53 at hf
  refine sh_inc (i' := 5) i88_53 rfl (xokst_of (Nat.le_of_ble_eq_true rfl) rfl) rfl ?_
  refine sh_goto (t := 3) i88_56 rfl ?_
  exact hk3 (xrv_cat (o6)) hf
def l88_3  : Nat → Option Nat → Option Nat → Option Nat → Int32 → Int32 → Int32 → xH → Option (Option Nat × xH)
  | 0 => fun _ _ _ _ _ _ _ => none
  | n + 1 => fun o0 o1 o2 x3 x4 x5 h => (xgI h o0 8 1).bind fun v_1 => (if v_1 ≤ x5 then some (none, h) else (xgR h o0 8 0).bind fun a_3 => (xaR h a_3 x5).bind fun a_4 => (if a_4 = none then j88_53 (l88_3 n) o0 o1 o2 x3 x4 x5 a_4 h else (xgR h a_4 2 2).bind fun a_6 => (if a_6 = o1 then (xgR h a_4 2 1).bind fun a_8 => (xcv h a_8 9).bind fun _ => (fn103 a_8 o2 x3 x4 h).bind fun r_9 => (if r_9.1 = 0 then j88_53 (l88_3 n) o0 o1 o2 x3 x4 x5 a_4 r_9.2 else some (a_4, r_9.2)) else j88_53 (l88_3 n) o0 o1 o2 x3 x4 x5 a_4 h)))
theorem l88_3_ok {xs : List Int32} {d : Nat} (hd : 2 ≤ d) : ∀ (n : Nat) {u6 : Value} {o0 : Option Nat} {o1 : Option Nat} {o2 : Option Nat} {x3 : Int32} {x4 : Int32} {x5 : Int32} {h : xH} {r : (Option Nat × xH)} (hu6 : u6.category = 1), l88_3 n o0 o1 o2 x3 x4 x5 h = some r → xEv (xTa xs) d 88 (3, [xrv o0, xrv o1, xrv o2, .int x3, .int x4, .int x5, u6], [], h) (some (xrv r.1), r.2) := by
  intro n
  induction n with
  | zero => intros; rename_i hf; cases hf
  | succ n ih =>
    intro u6 o0 o1 o2 x3 x4 x5 h r hu6 hf
    replace hf : ((xgI h o0 8 1).bind fun v_1 => (if v_1 ≤ x5 then some (none, h) else (xgR h o0 8 0).bind fun a_3 => (xaR h a_3 x5).bind fun a_4 => (if a_4 = none then j88_53 (l88_3 n) o0 o1 o2 x3 x4 x5 a_4 h else (xgR h a_4 2 2).bind fun a_6 => (if a_6 = o1 then (xgR h a_4 2 1).bind fun a_8 => (xcv h a_8 9).bind fun _ => (fn103 a_8 o2 x3 x4 h).bind fun r_9 => (if r_9.1 = 0 then j88_53 (l88_3 n) o0 o1 o2 x3 x4 x5 a_4 r_9.2 else some (a_4, r_9.2)) else j88_53 (l88_3 n) o0 o1 o2 x3 x4 x5 a_4 h)))) = some r := hf
    refine ev_do i88_3 rfl ?_
    refine sh_aload (i' := 0) (n := 1) i88_5 (Or.inr ⟨rfl, by decide⟩) rfl ?_
    obtain ⟨v_1, ev_1, hf⟩ := x_bind hf
    refine sh_getI i88_6 f88_17 ev_1 ?_
    refine ev_icmp (t := 59) i88_9 rfl (fun c_2 => ?_) (fun c_2 => ?_)
    · replace hf := x_pos (show v_1 ≤ x5 from c_2) hf
      refine sh_cnull i88_59 ?_
      obtain rfl := Option.some.inj hf
      exact sh_aret i88_60 m88 rfl
    · replace hf := x_neg (show ¬ v_1 ≤ x5 from c_2) hf
      refine sh_aload (i' := 0) (n := 1) i88_12 (Or.inr ⟨rfl, by decide⟩) rfl ?_
      obtain ⟨a_3, ea_3, hf⟩ := x_bind hf
      refine sh_getR i88_13 f88_11 ea_3 ?_
      refine ev_do i88_16 rfl ?_
      obtain ⟨a_4, ea_4, hf⟩ := x_bind hf
      refine sh_aldR i88_18 ea_4 ?_
      refine sh_astore (i' := 6) (n := 2) i88_19 (Or.inl rfl) (xokst_of (Nat.le_of_ble_eq_true rfl) rfl) ?_
      refine sh_aload (i' := 6) (n := 2) i88_21 (Or.inl rfl) rfl ?_
      refine sh_null (t := 53) i88_23 rfl (fun c_5 => ?_) (fun c_5 => ?_)
      · replace hf := x_pos c_5 hf
        exact j88_53_ok hd ih hf
      · replace hf := x_neg c_5 hf
        refine sh_aload (i' := 6) (n := 2) i88_26 (Or.inl rfl) rfl ?_
        obtain ⟨a_6, ea_6, hf⟩ := x_bind hf
        refine sh_getR i88_28 f88_56 ea_6 ?_
        refine sh_aload (i' := 1) (n := 1) i88_31 (Or.inr ⟨rfl, by decide⟩) rfl ?_
        refine sh_acmp (ne := true) (t := 53) i88_32 rfl (fun c_7 => ?_) (fun c_7 => ?_)
        · replace hf := x_pos c_7 hf
          refine sh_aload (i' := 6) (n := 2) i88_35 (Or.inl rfl) rfl ?_
          obtain ⟨a_8, ea_8, hf⟩ := x_bind hf
          refine sh_getR i88_37 f88_24 ea_8 ?_
          refine sh_aload (i' := 2) (n := 1) i88_40 (Or.inr ⟨rfl, by decide⟩) rfl ?_
          refine ev_do i88_41 rfl ?_
          refine ev_do i88_42 rfl ?_
          obtain ⟨_, eu_11, hf⟩ := x_bind hf
          obtain ⟨r_9, er_9, hf⟩ := x_bind hf
          refine sh_inv (as := [.int x4, .int x3, xrv o2]) (z := (some (.int r_9.1), r_9.2)) i88_44 v88_60 (Or.inl ⟨by decide, rfl⟩) m103 rfl (Nat.le_of_ble_eq_true rfl) eu_11 (fn103_call (by omega) er_9) ?_
          refine ev_if (t := 53) i88_47 rfl (fun c_10 => ?_) (fun c_10 => ?_)
          · replace hf := x_pos (show r_9.1 = 0 from c_10) hf
            exact j88_53_ok hd ih hf
          · replace hf := x_neg (show ¬ r_9.1 = 0 from c_10) hf
            refine sh_aload (i' := 6) (n := 2) i88_50 (Or.inl rfl) rfl ?_
            obtain rfl := Option.some.inj hf
            exact sh_aret i88_52 m88 rfl
        · replace hf := x_neg c_7 hf
          exact j88_53_ok hd ih hf
def fn88 (o0 : Option Nat) (o1 : Option Nat) (o2 : Option Nat) (x3 : Int32) (x4 : Int32) (h : xH) : Option (Option Nat × xH) := l88_3 xFuel o0 o1 o2 x3 x4 0 h
theorem fn88_call {xs : List Int32} {d : Nat} (hd : 3 ≤ d) {o0 : Option Nat} {o1 : Option Nat} {o2 : Option Nat} {x3 : Int32} {x4 : Int32} {h : xH} {r : (Option Nat × xH)} (hf : fn88 o0 o1 o2 x3 x4 h = some r) : xCall (xTa xs) d 88 [xrv o0, xrv o1, xrv o2, .int x3, .int x4] h (some (xrv r.1), r.2) := by
  obtain ⟨d, rfl⟩ : ∃ d2, d = d2 + 1 := ⟨d - 1, by omega⟩
  replace hd : 2 ≤ d := by omega
  refine call_of2 (fl := [xrv o0, xrv o1, xrv o2, .int x3, .int x4]) (Ls := [xrv o0, xrv o1, xrv o2, .int x3, .int x4, .float 0, .float 0]) m88 (by simp [xfl, xrv_cat, xc_i, xc_j, xc_a, xc_f]) (Nat.le_of_ble_eq_true rfl) rfl ?_
  unfold fn88 at hf
  refine ev_do i88_0 rfl ?_
  refine sh_istore (i' := 5) (n := 2) i88_1 (Or.inl rfl) (xokst_of (Nat.le_of_ble_eq_true rfl) rfl) ?_
  exact l88_3_ok hd xFuel rfl hf
end
section
def j89_51  (o0 : Option Nat) (o1 : Option Nat) (o2 : Option Nat) (x3 : Int32) (x4 : Int32) (o5 : Option Nat) (x6 : Int32) (h : xH) : Option (Option Nat × xH) := some (none, h)
theorem j89_51_ok {xs : List Int32} {d : Nat} (hd : 3 ≤ d) {u7 : Value} {o0 : Option Nat} {o1 : Option Nat} {o2 : Option Nat} {x3 : Int32} {x4 : Int32} {o5 : Option Nat} {x6 : Int32} {h : xH} {r : (Option Nat × xH)} (hu7 : u7.category = 1) (hf : j89_51 o0 o1 o2 x3 x4 o5 x6 h = some r) : xEv (xTa xs) d 89 (51, [xrv o0, xrv o1, xrv o2, .int x3, .int x4, xrv o5, .int x6, u7], [], h) (some (xrv r.1), r.2) := by
  unfold j89_51 at hf
  refine sh_cnull i89_51 ?_
  obtain rfl := Option.some.inj hf
  exact sh_aret i89_52 m89 rfl
def l89_6  : Nat → Option Nat → Option Nat → Option Nat → Int32 → Int32 → Option Nat → Int32 → xH → Option (Option Nat × xH)
  | 0 => fun _ _ _ _ _ _ _ _ => none
  | n + 1 => fun o0 o1 o2 x3 x4 o5 x6 h => (if 40 ≤ x6 then j89_51 o0 o1 o2 x3 x4 o5 x6 h else (if o5 = none then j89_51 o0 o1 o2 x3 x4 o5 x6 h else (xcv h o0 8).bind fun _ => (fn88 o0 o5 o2 x3 x4 h).bind fun r_3 => (if r_3.1 = none then (xgR r_3.2 o5 2 3).bind fun a_5 => l89_6 n o0 o1 o2 x3 x4 a_5 (x6 + 1) r_3.2 else some (r_3.1, r_3.2))))
theorem l89_6_ok {xs : List Int32} {d : Nat} (hd : 3 ≤ d) : ∀ (n : Nat) {u7 : Value} {o0 : Option Nat} {o1 : Option Nat} {o2 : Option Nat} {x3 : Int32} {x4 : Int32} {o5 : Option Nat} {x6 : Int32} {h : xH} {r : (Option Nat × xH)} (hu7 : u7.category = 1), l89_6 n o0 o1 o2 x3 x4 o5 x6 h = some r → xEv (xTa xs) d 89 (6, [xrv o0, xrv o1, xrv o2, .int x3, .int x4, xrv o5, .int x6, u7], [], h) (some (xrv r.1), r.2) := by
  intro n
  induction n with
  | zero => intros; rename_i hf; cases hf
  | succ n ih =>
    intro u7 o0 o1 o2 x3 x4 o5 x6 h r hu7 hf
    replace hf : ((if 40 ≤ x6 then j89_51 o0 o1 o2 x3 x4 o5 x6 h else (if o5 = none then j89_51 o0 o1 o2 x3 x4 o5 x6 h else (xcv h o0 8).bind fun _ => (fn88 o0 o5 o2 x3 x4 h).bind fun r_3 => (if r_3.1 = none then (xgR r_3.2 o5 2 3).bind fun a_5 => l89_6 n o0 o1 o2 x3 x4 a_5 (x6 + 1) r_3.2 else some (r_3.1, r_3.2))))) = some r := hf
    refine ev_do i89_6 rfl ?_
    refine ev_do i89_8 rfl ?_
    refine ev_icmp (t := 51) i89_10 rfl (fun c_1 => ?_) (fun c_1 => ?_)
    · replace hf := x_pos (show 40 ≤ x6 from c_1) hf
      exact j89_51_ok hd hu7 hf
    · replace hf := x_neg (show ¬ 40 ≤ x6 from c_1) hf
      refine sh_aload (i' := 5) (n := 2) i89_13 (Or.inl rfl) rfl ?_
      refine sh_null (t := 51) i89_15 rfl (fun c_2 => ?_) (fun c_2 => ?_)
      · replace hf := x_pos c_2 hf
        exact j89_51_ok hd hu7 hf
      · replace hf := x_neg c_2 hf
        refine sh_aload (i' := 0) (n := 1) i89_18 (Or.inr ⟨rfl, by decide⟩) rfl ?_
        refine sh_aload (i' := 5) (n := 2) i89_19 (Or.inl rfl) rfl ?_
        refine sh_aload (i' := 2) (n := 1) i89_21 (Or.inr ⟨rfl, by decide⟩) rfl ?_
        refine ev_do i89_22 rfl ?_
        refine ev_do i89_23 rfl ?_
        obtain ⟨_, eu_6, hf⟩ := x_bind hf
        obtain ⟨r_3, er_3, hf⟩ := x_bind hf
        refine sh_inv (as := [.int x4, .int x3, xrv o2, xrv o5]) (z := (some (xrv r_3.1), r_3.2)) i89_25 v89_52 (Or.inl ⟨by decide, rfl⟩) m88 rfl (Nat.le_of_ble_eq_true rfl) eu_6 (fn88_call (by omega) er_3) ?_
        refine sh_astore (i' := 7) (n := 2) i89_28 (Or.inl rfl) (xokst_of (Nat.le_of_ble_eq_true rfl) rfl) ?_
        refine sh_aload (i' := 7) (n := 2) i89_30 (Or.inl rfl) rfl ?_
        refine sh_null (t := 38) i89_32 rfl (fun c_4 => ?_) (fun c_4 => ?_)
        · replace hf := x_pos c_4 hf
          refine sh_aload (i' := 5) (n := 2) i89_38 (Or.inl rfl) rfl ?_
          obtain ⟨a_5, ea_5, hf⟩ := x_bind hf
          refine sh_getR i89_40 f89_64 ea_5 ?_
          refine sh_astore (i' := 5) (n := 2) i89_43 (Or.inl rfl) (xokst_of (Nat.le_of_ble_eq_true rfl) rfl) ?_
          refine sh_inc (i' := 6) i89_45 rfl (xokst_of (Nat.le_of_ble_eq_true rfl) (xrv_cat (a_5))) rfl ?_
          refine sh_goto (t := 6) i89_48 rfl ?_
          exact ih (xrv_cat (r_3.1)) hf
        · replace hf := x_neg c_4 hf
          refine sh_aload (i' := 7) (n := 2) i89_35 (Or.inl rfl) rfl ?_
          obtain rfl := Option.some.inj hf
          exact sh_aret i89_37 m89 rfl
def fn89 (o0 : Option Nat) (o1 : Option Nat) (o2 : Option Nat) (x3 : Int32) (x4 : Int32) (h : xH) : Option (Option Nat × xH) := l89_6 xFuel o0 o1 o2 x3 x4 o1 0 h
theorem fn89_call {xs : List Int32} {d : Nat} (hd : 4 ≤ d) {o0 : Option Nat} {o1 : Option Nat} {o2 : Option Nat} {x3 : Int32} {x4 : Int32} {h : xH} {r : (Option Nat × xH)} (hf : fn89 o0 o1 o2 x3 x4 h = some r) : xCall (xTa xs) d 89 [xrv o0, xrv o1, xrv o2, .int x3, .int x4] h (some (xrv r.1), r.2) := by
  obtain ⟨d, rfl⟩ : ∃ d2, d = d2 + 1 := ⟨d - 1, by omega⟩
  replace hd : 3 ≤ d := by omega
  refine call_of2 (fl := [xrv o0, xrv o1, xrv o2, .int x3, .int x4]) (Ls := [xrv o0, xrv o1, xrv o2, .int x3, .int x4, .float 0, .float 0, .float 0]) m89 (by simp [xfl, xrv_cat, xc_i, xc_j, xc_a, xc_f]) (Nat.le_of_ble_eq_true rfl) rfl ?_
  unfold fn89 at hf
  refine sh_aload (i' := 1) (n := 1) i89_0 (Or.inr ⟨rfl, by decide⟩) rfl ?_
  refine sh_astore (i' := 5) (n := 2) i89_1 (Or.inl rfl) (xokst_of (Nat.le_of_ble_eq_true rfl) rfl) ?_
  refine ev_do i89_3 rfl ?_
  refine sh_istore (i' := 6) (n := 2) i89_4 (Or.inl rfl) (xokst_of (Nat.le_of_ble_eq_true rfl) (xrv_cat (o1))) ?_
  exact l89_6_ok hd xFuel rfl hf
end
section
def fn90 (o0 : Option Nat) (o1 : Option Nat) (h : xH) : Option (Option Nat × xH) := (xgR h o1 2 2).bind fun a_1 => (if a_1 = none then some (none, h) else (xgR h o1 2 2).bind fun a_3 => (xgR h a_3 2 3).bind fun a_4 => (xgR h o1 2 1).bind fun a_5 => (xgR h o1 2 1).bind fun a_6 => (xgI h a_6 9 1).bind fun v_7 => (xcv h o0 8).bind fun _ => (fn89 o0 a_4 a_5 0 v_7 h).bind fun r_8 => some (r_8.1, r_8.2))
theorem fn90_call {xs : List Int32} {d : Nat} (hd : 5 ≤ d) {o0 : Option Nat} {o1 : Option Nat} {h : xH} {r : (Option Nat × xH)} (hf : fn90 o0 o1 h = some r) : xCall (xTa xs) d 90 [xrv o0, xrv o1] h (some (xrv r.1), r.2) := by
  obtain ⟨d, rfl⟩ : ∃ d2, d = d2 + 1 := ⟨d - 1, by omega⟩
  replace hd : 4 ≤ d := by omega
  refine call_of2 (fl := [xrv o0, xrv o1]) (Ls := [xrv o0, xrv o1]) m90 (by simp [xfl, xrv_cat, xc_i, xc_j, xc_a, xc_f]) (Nat.le_of_ble_eq_true rfl) rfl ?_
  unfold fn90 at hf
  refine sh_aload (i' := 1) (n := 1) i90_0 (Or.inr ⟨rfl, by decide⟩) rfl ?_
  obtain ⟨a_1, ea_1, hf⟩ := x_bind hf
  refine sh_getR i90_1 f90_56 ea_1 ?_
  refine sh_nnul (t := 9) i90_4 rfl (fun c_2 => ?_) (fun c_2 => ?_)
  · replace hf := x_pos c_2 hf
    refine sh_cnull i90_7 ?_
    obtain rfl := Option.some.inj hf
    exact sh_aret i90_8 m90 rfl
  · replace hf := x_neg c_2 hf
    refine sh_aload (i' := 0) (n := 1) i90_9 (Or.inr ⟨rfl, by decide⟩) rfl ?_
    refine sh_aload (i' := 1) (n := 1) i90_10 (Or.inr ⟨rfl, by decide⟩) rfl ?_
    obtain ⟨a_3, ea_3, hf⟩ := x_bind hf
    refine sh_getR i90_11 f90_56 ea_3 ?_
    obtain ⟨a_4, ea_4, hf⟩ := x_bind hf
    refine sh_getR i90_14 f90_64 ea_4 ?_
    refine sh_aload (i' := 1) (n := 1) i90_17 (Or.inr ⟨rfl, by decide⟩) rfl ?_
    obtain ⟨a_5, ea_5, hf⟩ := x_bind hf
    refine sh_getR i90_18 f90_24 ea_5 ?_
    refine ev_do i90_21 rfl ?_
    refine sh_aload (i' := 1) (n := 1) i90_22 (Or.inr ⟨rfl, by decide⟩) rfl ?_
    obtain ⟨a_6, ea_6, hf⟩ := x_bind hf
    refine sh_getR i90_23 f90_24 ea_6 ?_
    obtain ⟨v_7, ev_7, hf⟩ := x_bind hf
    refine sh_getI i90_26 f90_67 ev_7 ?_
    obtain ⟨_, eu_9, hf⟩ := x_bind hf
    obtain ⟨r_8, er_8, hf⟩ := x_bind hf
    refine sh_inv (as := [.int v_7, .int 0, xrv a_5, xrv a_4]) (z := (some (xrv r_8.1), r_8.2)) i90_29 v90_68 (Or.inl ⟨by decide, rfl⟩) m89 rfl (Nat.le_of_ble_eq_true rfl) eu_9 (fn89_call (by omega) er_8) ?_
    obtain rfl := Option.some.inj hf
    exact sh_aret i90_32 m90 rfl
end
section
def j91_35  (o0 : Option Nat) (o1 : Option Nat) (o2 : Option Nat) (x3 : Int32) (h : xH) : Option (Option Nat × xH) := some (none, h)
theorem j91_35_ok {xs : List Int32} {d : Nat} (hd : 5 ≤ d) {o0 : Option Nat} {o1 : Option Nat} {o2 : Option Nat} {x3 : Int32} {h : xH} {r : (Option Nat × xH)} (hf : j91_35 o0 o1 o2 x3 h = some r) : xEv (xTa xs) d 91 (35, [xrv o0, xrv o1, xrv o2, .int x3], [], h) (some (xrv r.1), r.2) := by
  unfold j91_35 at hf
  refine sh_cnull i91_35 ?_
  obtain rfl := Option.some.inj hf
  exact sh_aret i91_36 m91 rfl
def l91_4  : Nat → Option Nat → Option Nat → Option Nat → Int32 → xH → Option (Option Nat × xH)
  | 0 => fun _ _ _ _ _ => none
  | n + 1 => fun o0 o1 o2 x3 h => (if 40 ≤ x3 then j91_35 o0 o1 o2 x3 h else (if o2 = none then j91_35 o0 o1 o2 x3 h else (xgI h o2 2 8).bind fun v_3 => (if v_3 = 0 then (xcv h o0 8).bind fun _ => (fn90 o0 o2 h).bind fun r_5 => l91_4 n o0 o1 r_5.1 (x3 + 1) r_5.2 else some (o2, h))))
theorem l91_4_ok {xs : List Int32} {d : Nat} (hd : 5 ≤ d) : ∀ (n : Nat) {o0 : Option Nat} {o1 : Option Nat} {o2 : Option Nat} {x3 : Int32} {h : xH} {r : (Option Nat × xH)}, l91_4 n o0 o1 o2 x3 h = some r → xEv (xTa xs) d 91 (4, [xrv o0, xrv o1, xrv o2, .int x3], [], h) (some (xrv r.1), r.2) := by
  intro n
  induction n with
  | zero => intros; rename_i hf; cases hf
  | succ n ih =>
    intro o0 o1 o2 x3 h r hf
    replace hf : ((if 40 ≤ x3 then j91_35 o0 o1 o2 x3 h else (if o2 = none then j91_35 o0 o1 o2 x3 h else (xgI h o2 2 8).bind fun v_3 => (if v_3 = 0 then (xcv h o0 8).bind fun _ => (fn90 o0 o2 h).bind fun r_5 => l91_4 n o0 o1 r_5.1 (x3 + 1) r_5.2 else some (o2, h))))) = some r := hf
    refine ev_do i91_4 rfl ?_
    refine ev_do i91_5 rfl ?_
    refine ev_icmp (t := 35) i91_7 rfl (fun c_1 => ?_) (fun c_1 => ?_)
    · replace hf := x_pos (show 40 ≤ x3 from c_1) hf
      exact j91_35_ok hd hf
    · replace hf := x_neg (show ¬ 40 ≤ x3 from c_1) hf
      refine sh_aload (i' := 2) (n := 1) i91_10 (Or.inr ⟨rfl, by decide⟩) rfl ?_
      refine sh_null (t := 35) i91_11 rfl (fun c_2 => ?_) (fun c_2 => ?_)
      · replace hf := x_pos c_2 hf
        exact j91_35_ok hd hf
      · replace hf := x_neg c_2 hf
        refine sh_aload (i' := 2) (n := 1) i91_14 (Or.inr ⟨rfl, by decide⟩) rfl ?_
        obtain ⟨v_3, ev_3, hf⟩ := x_bind hf
        refine sh_getI i91_15 f91_48 ev_3 ?_
        refine ev_if (t := 23) i91_18 rfl (fun c_4 => ?_) (fun c_4 => ?_)
        · replace hf := x_pos (show v_3 = 0 from c_4) hf
          refine sh_aload (i' := 0) (n := 1) i91_23 (Or.inr ⟨rfl, by decide⟩) rfl ?_
          refine sh_aload (i' := 2) (n := 1) i91_24 (Or.inr ⟨rfl, by decide⟩) rfl ?_
          obtain ⟨_, eu_6, hf⟩ := x_bind hf
          obtain ⟨r_5, er_5, hf⟩ := x_bind hf
          refine sh_inv (as := [xrv o2]) (z := (some (xrv r_5.1), r_5.2)) i91_25 v91_71 (Or.inl ⟨by decide, rfl⟩) m90 rfl (Nat.le_of_ble_eq_true rfl) eu_6 (fn90_call (by omega) er_5) ?_
          refine sh_astore (i' := 2) (n := 1) i91_28 (Or.inr ⟨rfl, by decide⟩) (xokst_of (Nat.le_of_ble_eq_true rfl) (xrv_cat (o1))) ?_
          refine sh_inc (i' := 3) i91_29 rfl (xokst_of (Nat.le_of_ble_eq_true rfl) (xrv_cat (r_5.1))) rfl ?_
          refine sh_goto (t := 4) i91_32 rfl ?_
          exact ih hf
        · replace hf := x_neg (show ¬ v_3 = 0 from c_4) hf
          refine sh_aload (i' := 2) (n := 1) i91_21 (Or.inr ⟨rfl, by decide⟩) rfl ?_
          obtain rfl := Option.some.inj hf
          exact sh_aret i91_22 m91 rfl
def fn91 (o0 : Option Nat) (o1 : Option Nat) (h : xH) : Option (Option Nat × xH) := l91_4 xFuel o0 o1 o1 0 h
theorem fn91_call {xs : List Int32} {d : Nat} (hd : 6 ≤ d) {o0 : Option Nat} {o1 : Option Nat} {h : xH} {r : (Option Nat × xH)} (hf : fn91 o0 o1 h = some r) : xCall (xTa xs) d 91 [xrv o0, xrv o1] h (some (xrv r.1), r.2) := by
  obtain ⟨d, rfl⟩ : ∃ d2, d = d2 + 1 := ⟨d - 1, by omega⟩
  replace hd : 5 ≤ d := by omega
  refine call_of2 (fl := [xrv o0, xrv o1]) (Ls := [xrv o0, xrv o1, .float 0, .float 0]) m91 (by simp [xfl, xrv_cat, xc_i, xc_j, xc_a, xc_f]) (Nat.le_of_ble_eq_true rfl) rfl ?_
  unfold fn91 at hf
  refine sh_aload (i' := 1) (n := 1) i91_0 (Or.inr ⟨rfl, by decide⟩) rfl ?_
  refine sh_astore (i' := 2) (n := 1) i91_1 (Or.inr ⟨rfl, by decide⟩) (xokst_of (Nat.le_of_ble_eq_true rfl) (xrv_cat (o1))) ?_
  refine ev_do i91_2 rfl ?_
  refine sh_istore (i' := 3) (n := 1) i91_3 (Or.inr ⟨rfl, by decide⟩) (xokst_of (Nat.le_of_ble_eq_true rfl) (xrv_cat (o1))) ?_
  exact l91_4_ok hd xFuel hf
end
section
def j92_19  (o0 : Option Nat) (o1 : Option Nat) (o2 : Option Nat) (s0 : Option Nat) (h : xH) : Option (Option Nat × xH) := some (s0, h)
theorem j92_19_ok {xs : List Int32} {d : Nat} (hd : 6 ≤ d) {o0 : Option Nat} {o1 : Option Nat} {o2 : Option Nat} {s0 : Option Nat} {h : xH} {r : (Option Nat × xH)} (hf : j92_19 o0 o1 o2 s0 h = some r) : xEv (xTa xs) d 92 (19, [xrv o0, xrv o1, xrv o2], [xrv s0], h) (some (xrv r.1), r.2) := by
  unfold j92_19 at hf
  obtain rfl := Option.some.inj hf
  exact sh_aret i92_19 m92 rfl
def fn92 (o0 : Option Nat) (o1 : Option Nat) (h : xH) : Option (Option Nat × xH) := (xcv h o0 8).bind fun _ => (fn90 o0 o1 h).bind fun r_1 => (if r_1.1 = none then j92_19 o0 o1 r_1.1 none r_1.2 else (xcv r_1.2 o0 8).bind fun _ => (fn91 o0 r_1.1 r_1.2).bind fun r_3 => j92_19 o0 o1 r_1.1 r_3.1 r_3.2)
theorem fn92_call {xs : List Int32} {d : Nat} (hd : 7 ≤ d) {o0 : Option Nat} {o1 : Option Nat} {h : xH} {r : (Option Nat × xH)} (hf : fn92 o0 o1 h = some r) : xCall (xTa xs) d 92 [xrv o0, xrv o1] h (some (xrv r.1), r.2) := by
  obtain ⟨d, rfl⟩ : ∃ d2, d = d2 + 1 := ⟨d - 1, by omega⟩
  replace hd : 6 ≤ d := by omega
  refine call_of2 (fl := [xrv o0, xrv o1]) (Ls := [xrv o0, xrv o1, .float 0]) m92 (by simp [xfl, xrv_cat, xc_i, xc_j, xc_a, xc_f]) (Nat.le_of_ble_eq_true rfl) rfl ?_
  unfold fn92 at hf
  refine sh_aload (i' := 0) (n := 1) i92_0 (Or.inr ⟨rfl, by decide⟩) rfl ?_
  refine sh_aload (i' := 1) (n := 1) i92_1 (Or.inr ⟨rfl, by decide⟩) rfl ?_
  obtain ⟨_, eu_5, hf⟩ := x_bind hf
  obtain ⟨r_1, er_1, hf⟩ := x_bind hf
  refine sh_inv (as := [xrv o1]) (z := (some (xrv r_1.1), r_1.2)) i92_2 v92_71 (Or.inl ⟨by decide, rfl⟩) m90 rfl (Nat.le_of_ble_eq_true rfl) eu_5 (fn90_call (by omega) er_1) ?_
  refine sh_astore (i' := 2) (n := 1) i92_5 (Or.inr ⟨rfl, by decide⟩) (xokst_of (Nat.le_of_ble_eq_true rfl) (xrv_cat (o1))) ?_
  refine sh_aload (i' := 2) (n := 1) i92_6 (Or.inr ⟨rfl, by decide⟩) rfl ?_
  refine sh_nnul (t := 14) i92_7 rfl (fun c_2 => ?_) (fun c_2 => ?_)
  · replace hf := x_pos c_2 hf
    refine sh_cnull i92_10 ?_
    refine sh_goto (t := 19) i92_11 rfl ?_
    exact j92_19_ok hd hf
  · replace hf := x_neg c_2 hf
    refine sh_aload (i' := 0) (n := 1) i92_14 (Or.inr ⟨rfl, by decide⟩) rfl ?_
    refine sh_aload (i' := 2) (n := 1) i92_15 (Or.inr ⟨rfl, by decide⟩) rfl ?_
    obtain ⟨_, eu_4, hf⟩ := x_bind hf
    obtain ⟨r_3, er_3, hf⟩ := x_bind hf
    refine sh_inv (as := [xrv r_1.1]) (z := (some (xrv r_3.1), r_3.2)) i92_16 v92_75 (Or.inl ⟨by decide, rfl⟩) m91 rfl (Nat.le_of_ble_eq_true rfl) eu_4 (fn91_call (by omega) er_3) ?_
    exact j92_19_ok hd hf
end
section
def j138_16  (x0 : Int32) (s0 : Int32) (h : xH) : Option (Int32 × xH) := (if s0 &&& 1 = s0 then some (s0, h) else none)
theorem j138_16_ok {xs : List Int32} {d : Nat} (hd : 1 ≤ d) {x0 : Int32} {s0 : Int32} {h : xH} {r : (Int32 × xH)} (hf : j138_16 x0 s0 h = some r) : xEv (xTa xs) d 138 (16, [.int x0], [.int s0], h) (some (.int r.1), r.2) := by
  unfold j138_16 at hf
  by_cases c_1 : s0 &&& 1 = s0
  · replace hf := x_pos c_1 hf
    obtain rfl := Option.some.inj hf
    exact sh_iret i138_16 m138 rfl (congrArg Value.int c_1)
  · replace hf := x_neg c_1 hf
    cases hf
def j138_15  (x0 : Int32) (h : xH) : Option (Int32 × xH) := j138_16 x0 0 h
theorem j138_15_ok {xs : List Int32} {d : Nat} (hd : 1 ≤ d) {x0 : Int32} {h : xH} {r : (Int32 × xH)} (hf : j138_15 x0 h = some r) : xEv (xTa xs) d 138 (15, [.int x0], [], h) (some (.int r.1), r.2) := by
  unfold j138_15 at hf
  refine ev_do i138_15 rfl ?_
  exact j138_16_ok hd hf
def fn138 (x0 : Int32) (h : xH) : Option (Int32 × xH) := (if x0 < 2 then j138_15 x0 h else (if 6 < x0 then j138_15 x0 h else j138_16 x0 1 h))
theorem fn138_call {xs : List Int32} {d : Nat} (hd : 2 ≤ d) {x0 : Int32} {h : xH} {r : (Int32 × xH)} (hf : fn138 x0 h = some r) : xCall (xTa xs) d 138 [.int x0] h (some (.int r.1), r.2) := by
  obtain ⟨d, rfl⟩ : ∃ d2, d = d2 + 1 := ⟨d - 1, by omega⟩
  replace hd : 1 ≤ d := by omega
  refine call_of2 (fl := [.int x0]) (Ls := [.int x0]) m138 (by simp [xfl, xrv_cat, xc_i, xc_j, xc_a, xc_f]) (Nat.le_of_ble_eq_true rfl) rfl ?_
  unfold fn138 at hf
  refine ev_do i138_0 rfl ?_
  refine ev_do i138_1 rfl ?_
  refine ev_icmp (t := 15) i138_2 rfl (fun c_1 => ?_) (fun c_1 => ?_)
  · replace hf := x_pos (show x0 < 2 from c_1) hf
    exact j138_15_ok hd hf
  · replace hf := x_neg (show ¬ x0 < 2 from c_1) hf
    refine ev_do i138_5 rfl ?_
    refine ev_do i138_6 rfl ?_
    refine ev_icmp (t := 15) i138_8 rfl (fun c_2 => ?_) (fun c_2 => ?_)
    · replace hf := x_pos (show 6 < x0 from c_2) hf
      exact j138_15_ok hd hf
    · replace hf := x_neg (show ¬ 6 < x0 from c_2) hf
      refine ev_do i138_11 rfl ?_
      refine sh_goto (t := 16) i138_12 rfl ?_
      exact j138_16_ok hd hf
end
section
def j20_99 (rc : Option Nat → Option Nat → Option Nat → Int32 → xH → Option xH) (k27 : Option Nat → Option Nat → Option Nat → Int32 → Option Nat → Int32 → xH → Option xH) (o0 : Option Nat) (o1 : Option Nat) (o2 : Option Nat) (x3 : Int32) (o4 : Option Nat) (x5 : Int32) (o6 : Option Nat) (h : xH) : Option xH := k27 o0 o1 o2 x3 o4 (x5 + 1) h
theorem j20_99_ok {xs : List Int32} {d : Nat} (hd : 7 ≤ d) {rc : Option Nat → Option Nat → Option Nat → Int32 → xH → Option xH} {k27 : Option Nat → Option Nat → Option Nat → Int32 → Option Nat → Int32 → xH → Option xH} (hrc : ∀ {o0 : Option Nat} {o1 : Option Nat} {o2 : Option Nat} {x3 : Int32} {h : xH} {r : xH}, rc o0 o1 o2 x3 h = some r → xCall (xTa xs) d 20 [xrv o0, xrv o1, xrv o2, .int x3] h (none, r)) (hk27 : ∀ {u6 : Value} {o0 : Option Nat} {o1 : Option Nat} {o2 : Option Nat} {x3 : Int32} {o4 : Option Nat} {x5 : Int32} {h : xH} {r : xH}, u6.category = 1 → k27 o0 o1 o2 x3 o4 x5 h = some r → xEv (xTa xs) d 20 (27, [xrv o0, xrv o1, xrv o2, .int x3, xrv o4, .int x5, u6], [], h) (none, r)) {o0 : Option Nat} {o1 : Option Nat} {o2 : Option Nat} {x3 : Int32} {o4 : Option Nat} {x5 : Int32} {o6 : Option Nat} {h : xH} {r : xH} (hf : j20_99 rc k27 o0 o1 o2 x3 o4 x5 o6 h = some r) : xEv (xTa xs) d 20 (99, [xrv o0, xrv o1, xrv o2, .int x3, xrv o4, .int x5, xrv o6], [], h) (none, r) := by
  unfold j20_99 at hf
  refine sh_inc (i' := 5) i20_99 rfl (xokst_of (Nat.le_of_ble_eq_true rfl) (xrv_cat (o4))) rfl ?_
  refine sh_goto (t := 27) i20_102 rfl ?_
  exact hk27 (xrv_cat (o6)) hf
def j20_77 (rc : Option Nat → Option Nat → Option Nat → Int32 → xH → Option xH) (k27 : Option Nat → Option Nat → Option Nat → Int32 → Option Nat → Int32 → xH → Option xH) (o0 : Option Nat) (o1 : Option Nat) (o2 : Option Nat) (x3 : Int32) (o4 : Option Nat) (x5 : Int32) (o6 : Option Nat) (h : xH) : Option xH := (if o6 = none then j20_99 rc k27 o0 o1 o2 x3 o4 x5 o6 h else (xgI h o6 0 1).bind fun v_2 => (fn138 v_2 h).bind fun r_3 => (if r_3.1 = 0 then (xcv r_3.2 o0 3).bind fun _ => (fn22 o0 o6 r_3.2).bind fun h_5 => j20_99 rc k27 o0 o1 o2 x3 o4 x5 o6 h_5 else j20_99 rc k27 o0 o1 o2 x3 o4 x5 o6 r_3.2))
theorem j20_77_ok {xs : List Int32} {d : Nat} (hd : 7 ≤ d) {rc : Option Nat → Option Nat → Option Nat → Int32 → xH → Option xH} {k27 : Option Nat → Option Nat → Option Nat → Int32 → Option Nat → Int32 → xH → Option xH} (hrc : ∀ {o0 : Option Nat} {o1 : Option Nat} {o2 : Option Nat} {x3 : Int32} {h : xH} {r : xH}, rc o0 o1 o2 x3 h = some r → xCall (xTa xs) d 20 [xrv o0, xrv o1, xrv o2, .int x3] h (none, r)) (hk27 : ∀ {u6 : Value} {o0 : Option Nat} {o1 : Option Nat} {o2 : Option Nat} {x3 : Int32} {o4 : Option Nat} {x5 : Int32} {h : xH} {r : xH}, u6.category = 1 → k27 o0 o1 o2 x3 o4 x5 h = some r → xEv (xTa xs) d 20 (27, [xrv o0, xrv o1, xrv o2, .int x3, xrv o4, .int x5, u6], [], h) (none, r)) {o0 : Option Nat} {o1 : Option Nat} {o2 : Option Nat} {x3 : Int32} {o4 : Option Nat} {x5 : Int32} {o6 : Option Nat} {h : xH} {r : xH} (hf : j20_77 rc k27 o0 o1 o2 x3 o4 x5 o6 h = some r) : xEv (xTa xs) d 20 (77, [xrv o0, xrv o1, xrv o2, .int x3, xrv o4, .int x5, xrv o6], [], h) (none, r) := by
  unfold j20_77 at hf
  refine sh_aload (i' := 6) (n := 2) i20_77 (Or.inl rfl) rfl ?_
  refine sh_null (t := 99) i20_79 rfl (fun c_1 => ?_) (fun c_1 => ?_)
  · replace hf := x_pos c_1 hf
    exact j20_99_ok hd hrc hk27 hf
  · replace hf := x_neg c_1 hf
    refine sh_aload (i' := 6) (n := 2) i20_82 (Or.inl rfl) rfl ?_
    obtain ⟨v_2, ev_2, hf⟩ := x_bind hf
    refine sh_getI i20_84 f20_55 ev_2 ?_
    obtain ⟨r_3, er_3, hf⟩ := x_bind hf
    refine ev_sta (as := [.int v_2]) (z := (some (.int r_3.1), r_3.2)) i20_87 v20_68 (Or.inr rfl) m138 rfl (Nat.le_of_ble_eq_true rfl) (fn138_call (by omega) er_3) ?_
    refine ev_if (t := 99) i20_90 rfl (fun c_4 => ?_) (fun c_4 => ?_)
    · replace hf := x_neg (show ¬ r_3.1 = 0 from c_4) hf
      exact j20_99_ok hd hrc hk27 hf
    · replace hf := x_pos (show r_3.1 = 0 from Decidable.byContradiction (fun h9 => c_4 h9)) hf
      refine sh_aload (i' := 0) (n := 1) i20_93 (Or.inr ⟨rfl, by decide⟩) rfl ?_
      refine sh_aload (i' := 6) (n := 2) i20_94 (Or.inl rfl) rfl ?_
      obtain ⟨_, eu_6, hf⟩ := x_bind hf
      obtain ⟨h_5, eh_5, hf⟩ := x_bind hf
      refine sh_inv (as := [xrv o6]) (z := (none, h_5)) i20_96 v20_72 (Or.inl ⟨by decide, rfl⟩) m22 rfl (Nat.le_of_ble_eq_true rfl) eu_6 (fn22_call (by omega) eh_5) ?_
      exact j20_99_ok hd hrc hk27 hf
def l20_27 (rc : Option Nat → Option Nat → Option Nat → Int32 → xH → Option xH)  : Nat → Option Nat → Option Nat → Option Nat → Int32 → Option Nat → Int32 → xH → Option xH
  | 0 => fun _ _ _ _ _ _ _ => none
  | n + 1 => fun o0 o1 o2 x3 o4 x5 h => (xgI h o4 1 3).bind fun v_1 => (if v_1 ≤ x5 then some h else (xcv h o4 1).bind fun _ => (fn5 o4 x5 h).bind fun r_3 => (if r_3.1 = none then j20_77 rc (l20_27 rc n) o0 o1 o2 x3 o4 x5 r_3.1 r_3.2 else (xgI r_3.2 r_3.1 0 1).bind fun v_5 => (if v_5 = 7 then (xcv r_3.2 o1 8).bind fun _ => (fn92 o1 o2 r_3.2).bind fun r_7 => (xcv r_7.2 o0 3).bind fun _ => (rc o0 o1 r_7.1 (x3 + 1) r_7.2).bind fun h_8 => j20_99 rc (l20_27 rc n) o0 o1 o2 x3 o4 x5 r_3.1 h_8 else j20_77 rc (l20_27 rc n) o0 o1 o2 x3 o4 x5 r_3.1 r_3.2)))
theorem l20_27_ok {xs : List Int32} {d : Nat} (hd : 7 ≤ d) {rc : Option Nat → Option Nat → Option Nat → Int32 → xH → Option xH} (hrc : ∀ {o0 : Option Nat} {o1 : Option Nat} {o2 : Option Nat} {x3 : Int32} {h : xH} {r : xH}, rc o0 o1 o2 x3 h = some r → xCall (xTa xs) d 20 [xrv o0, xrv o1, xrv o2, .int x3] h (none, r)) : ∀ (n : Nat) {u6 : Value} {o0 : Option Nat} {o1 : Option Nat} {o2 : Option Nat} {x3 : Int32} {o4 : Option Nat} {x5 : Int32} {h : xH} {r : xH} (hu6 : u6.category = 1), l20_27 rc n o0 o1 o2 x3 o4 x5 h = some r → xEv (xTa xs) d 20 (27, [xrv o0, xrv o1, xrv o2, .int x3, xrv o4, .int x5, u6], [], h) (none, r) := by
  intro n
  induction n with
  | zero => intros; rename_i hf; cases hf
  | succ n ih =>
    intro u6 o0 o1 o2 x3 o4 x5 h r hu6 hf
    replace hf : ((xgI h o4 1 3).bind fun v_1 => (if v_1 ≤ x5 then some h else (xcv h o4 1).bind fun _ => (fn5 o4 x5 h).bind fun r_3 => (if r_3.1 = none then j20_77 rc (l20_27 rc n) o0 o1 o2 x3 o4 x5 r_3.1 r_3.2 else (xgI r_3.2 r_3.1 0 1).bind fun v_5 => (if v_5 = 7 then (xcv r_3.2 o1 8).bind fun _ => (fn92 o1 o2 r_3.2).bind fun r_7 => (xcv r_7.2 o0 3).bind fun _ => (rc o0 o1 r_7.1 (x3 + 1) r_7.2).bind fun h_8 => j20_99 rc (l20_27 rc n) o0 o1 o2 x3 o4 x5 r_3.1 h_8 else j20_77 rc (l20_27 rc n) o0 o1 o2 x3 o4 x5 r_3.1 r_3.2)))) = some r := hf
    refine ev_do i20_27 rfl ?_
    refine sh_aload (i' := 4) (n := 2) i20_29 (Or.inl rfl) rfl ?_
    obtain ⟨v_1, ev_1, hf⟩ := x_bind hf
    refine sh_getI i20_31 f20_46 ev_1 ?_
    refine ev_icmp (t := 105) i20_34 rfl (fun c_2 => ?_) (fun c_2 => ?_)
    · replace hf := x_pos (show v_1 ≤ x5 from c_2) hf
      obtain rfl := Option.some.inj hf
      exact sh_vret i20_105 m20 rfl
    · replace hf := x_neg (show ¬ v_1 ≤ x5 from c_2) hf
      refine sh_aload (i' := 4) (n := 2) i20_37 (Or.inl rfl) rfl ?_
      refine ev_do i20_39 rfl ?_
      obtain ⟨_, eu_11, hf⟩ := x_bind hf
      obtain ⟨r_3, er_3, hf⟩ := x_bind hf
      refine sh_inv (as := [.int x5]) (z := (some (xrv r_3.1), r_3.2)) i20_41 v20_51 (Or.inl ⟨by decide, rfl⟩) m5 rfl (Nat.le_of_ble_eq_true rfl) eu_11 (fn5_call (by omega) er_3) ?_
      refine sh_astore (i' := 6) (n := 2) i20_44 (Or.inl rfl) (xokst_of (Nat.le_of_ble_eq_true rfl) rfl) ?_
      refine sh_aload (i' := 6) (n := 2) i20_46 (Or.inl rfl) rfl ?_
      refine sh_null (t := 77) i20_48 rfl (fun c_4 => ?_) (fun c_4 => ?_)
      · replace hf := x_pos c_4 hf
        exact j20_77_ok hd hrc ih hf
      · replace hf := x_neg c_4 hf
        refine sh_aload (i' := 6) (n := 2) i20_51 (Or.inl rfl) rfl ?_
        obtain ⟨v_5, ev_5, hf⟩ := x_bind hf
        refine sh_getI i20_53 f20_55 ev_5 ?_
        refine ev_do i20_56 rfl ?_
        refine ev_icmp (t := 77) i20_58 rfl (fun c_6 => ?_) (fun c_6 => ?_)
        · replace hf := x_neg (show ¬ v_5 = 7 from c_6) hf
          exact j20_77_ok hd hrc ih hf
        · replace hf := x_pos (show v_5 = 7 from Decidable.byContradiction (fun h9 => c_6 h9)) hf
          refine sh_aload (i' := 0) (n := 1) i20_61 (Or.inr ⟨rfl, by decide⟩) rfl ?_
          refine sh_aload (i' := 1) (n := 1) i20_62 (Or.inr ⟨rfl, by decide⟩) rfl ?_
          refine sh_aload (i' := 1) (n := 1) i20_63 (Or.inr ⟨rfl, by decide⟩) rfl ?_
          refine sh_aload (i' := 2) (n := 1) i20_64 (Or.inr ⟨rfl, by decide⟩) rfl ?_
          obtain ⟨_, eu_10, hf⟩ := x_bind hf
          obtain ⟨r_7, er_7, hf⟩ := x_bind hf
          refine sh_inv (as := [xrv o2]) (z := (some (xrv r_7.1), r_7.2)) i20_65 v20_58 (Or.inl ⟨by decide, rfl⟩) m92 rfl (by simp [xcat, xrv_cat, xc_i, xc_j, xc_a, xc_f]) eu_10 (fn92_call (by omega) er_7) ?_
          refine ev_do i20_68 rfl ?_
          refine ev_do i20_69 rfl ?_
          refine ev_do i20_70 rfl ?_
          obtain ⟨_, eu_9, hf⟩ := x_bind hf
          obtain ⟨h_8, eh_8, hf⟩ := x_bind hf
          refine sh_inv (as := [.int (x3 + 1), xrv r_7.1, xrv o1]) (z := (none, h_8)) i20_71 v20_64 (Or.inl ⟨by decide, rfl⟩) m20 rfl (Nat.le_of_ble_eq_true rfl) eu_9 (hrc eh_8) ?_
          refine sh_goto (t := 99) i20_74 rfl ?_
          exact j20_99_ok hd hrc ih hf
def j20_17 (rc : Option Nat → Option Nat → Option Nat → Int32 → xH → Option xH)  (o0 : Option Nat) (o1 : Option Nat) (o2 : Option Nat) (x3 : Int32) (h : xH) : Option xH := some h
theorem j20_17_ok {xs : List Int32} {d : Nat} (hd : 7 ≤ d) {rc : Option Nat → Option Nat → Option Nat → Int32 → xH → Option xH} (hrc : ∀ {o0 : Option Nat} {o1 : Option Nat} {o2 : Option Nat} {x3 : Int32} {h : xH} {r : xH}, rc o0 o1 o2 x3 h = some r → xCall (xTa xs) d 20 [xrv o0, xrv o1, xrv o2, .int x3] h (none, r)) {u4 : Value} {u5 : Value} {u6 : Value} {o0 : Option Nat} {o1 : Option Nat} {o2 : Option Nat} {x3 : Int32} {h : xH} {r : xH} (hu4 : u4.category = 1) (hu5 : u5.category = 1) (hu6 : u6.category = 1) (hf : j20_17 rc o0 o1 o2 x3 h = some r) : xEv (xTa xs) d 20 (17, [xrv o0, xrv o1, xrv o2, .int x3, u4, u5, u6], [], h) (none, r) := by
  unfold j20_17 at hf
  obtain rfl := Option.some.inj hf
  exact sh_vret i20_17 m20 rfl
def fr20 : Nat → Option Nat → Option Nat → Option Nat → Int32 → xH → Option xH
  | 0 => fun _ _ _ _ _ => none
  | n + 1 => fun o0 o1 o2 x3 h => let rc := fr20 n; (if o2 = none then j20_17 rc o0 o1 o2 x3 h else (xgR h o2 2 7).bind fun a_2 => (if a_2 = none then j20_17 rc o0 o1 o2 x3 h else (if x3 ≤ 40 then (xgR h o2 2 7).bind fun a_5 => l20_27 rc xFuel o0 o1 o2 x3 a_5 0 h else j20_17 rc o0 o1 o2 x3 h)))
theorem fr20_call {xs : List Int32} : ∀ (n : Nat) {d : Nat} (hd : 8 + n ≤ d) {o0 : Option Nat} {o1 : Option Nat} {o2 : Option Nat} {x3 : Int32} {h : xH} {r : xH} (hf : fr20 n o0 o1 o2 x3 h = some r), xCall (xTa xs) d 20 [xrv o0, xrv o1, xrv o2, .int x3] h (none, r) := by
  intro n
  induction n with
  | zero => intros; rename_i hf; cases hf
  | succ n ih =>
    intro d hd o0 o1 o2 x3 h r hf
    obtain ⟨d, rfl⟩ : ∃ d2, d = d2 + 1 := ⟨d - 1, by omega⟩
    have hrc := @ih d (by omega)
    replace hd : 7 ≤ d := by omega
    refine call_of2 (fl := [xrv o0, xrv o1, xrv o2, .int x3]) (Ls := [xrv o0, xrv o1, xrv o2, .int x3, .float 0, .float 0, .float 0]) m20 (by simp [xfl, xrv_cat, xc_i, xc_j, xc_a, xc_f]) (Nat.le_of_ble_eq_true rfl) rfl ?_
    replace hf : (let rc := fr20 n; (if o2 = none then j20_17 rc o0 o1 o2 x3 h else (xgR h o2 2 7).bind fun a_2 => (if a_2 = none then j20_17 rc o0 o1 o2 x3 h else (if x3 ≤ 40 then (xgR h o2 2 7).bind fun a_5 => l20_27 rc xFuel o0 o1 o2 x3 a_5 0 h else j20_17 rc o0 o1 o2 x3 h)))) = some r := hf
    revert hf hrc
    generalize fr20 n = rc
    intro hrc hf
    dsimp only at hf
    refine sh_aload (i' := 2) (n := 1) i20_0 (Or.inr ⟨rfl, by decide⟩) rfl ?_
    refine sh_null (t := 17) i20_1 rfl (fun c_1 => ?_) (fun c_1 => ?_)
    · replace hf := x_pos c_1 hf
      exact j20_17_ok hd hrc rfl rfl rfl hf
    · replace hf := x_neg c_1 hf
      refine sh_aload (i' := 2) (n := 1) i20_4 (Or.inr ⟨rfl, by decide⟩) rfl ?_
      obtain ⟨a_2, ea_2, hf⟩ := x_bind hf
      refine sh_getR i20_5 f20_40 ea_2 ?_
      refine sh_null (t := 17) i20_8 rfl (fun c_3 => ?_) (fun c_3 => ?_)
      · replace hf := x_pos c_3 hf
        exact j20_17_ok hd hrc rfl rfl rfl hf
      · replace hf := x_neg c_3 hf
        refine ev_do i20_11 rfl ?_
        refine ev_do i20_12 rfl ?_
        refine ev_icmp (t := 18) i20_14 rfl (fun c_4 => ?_) (fun c_4 => ?_)
        · replace hf := x_pos (show x3 ≤ 40 from c_4) hf
          refine sh_aload (i' := 2) (n := 1) i20_18 (Or.inr ⟨rfl, by decide⟩) rfl ?_
          obtain ⟨a_5, ea_5, hf⟩ := x_bind hf
          refine sh_getR i20_19 f20_40 ea_5 ?_
          refine sh_astore (i' := 4) (n := 2) i20_22 (Or.inl rfl) (xokst_of (Nat.le_of_ble_eq_true rfl) rfl) ?_
          refine ev_do i20_24 rfl ?_
          refine sh_istore (i' := 5) (n := 2) i20_25 (Or.inl rfl) (xokst_of (Nat.le_of_ble_eq_true rfl) (xrv_cat (a_5))) ?_
          exact l20_27_ok hd hrc xFuel rfl hf
        · replace hf := x_neg (show ¬ x3 ≤ 40 from c_4) hf
          exact j20_17_ok hd hrc rfl rfl rfl hf
def fn20 (o0 : Option Nat) (o1 : Option Nat) (o2 : Option Nat) (x3 : Int32) (h : xH) : Option xH := fr20 60 o0 o1 o2 x3 h
theorem fn20_call {xs : List Int32} {d : Nat} (hd : 68 ≤ d) {o0 : Option Nat} {o1 : Option Nat} {o2 : Option Nat} {x3 : Int32} {h : xH} {r : xH} (hf : fn20 o0 o1 o2 x3 h = some r) : xCall (xTa xs) d 20 [xrv o0, xrv o1, xrv o2, .int x3] h (none, r) := fr20_call 60 (by omega) hf
end
