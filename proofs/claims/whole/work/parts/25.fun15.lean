section
def j175_72  (o0 : Option Nat) (x1 : Int32) (x2 : Int32) (h : xH) : Option xH := (xpF h o0 11 38 .int (.int (-1))).bind fun h_1 => some h_1
theorem j175_72_ok {xs : List Int32} {d : Nat} (hd : 7 ≤ d) {o0 : Option Nat} {x1 : Int32} {x2 : Int32} {h : xH} {r : xH} (hf : j175_72 o0 x1 x2 h = some r) : xEv (xTa xs) d 175 (72, [xrv o0, .int x1, .int x2], [], h) (none, r) := by
  unfold j175_72 at hf
  refine sh_aload (i' := 0) (n := 1) i175_72 (Or.inr ⟨rfl, by decide⟩) rfl ?_
  refine ev_do i175_73 rfl ?_
  obtain ⟨h_1, eh_1, hf⟩ := x_bind hf
  refine sh_put i175_74 f175_261 (by decide) rfl eh_1 ?_
  obtain rfl := Option.some.inj hf
  exact sh_vret i175_77 m175 rfl
def l175_6  : Nat → Option Nat → Int32 → Int32 → xH → Option xH
  | 0 => fun _ _ _ _ => none
  | n + 1 => fun o0 x1 x2 h => (xgI h o0 11 37).bind fun v_1 => (if v_1 ≤ x2 then j175_72 o0 x1 x2 h else (xgI h o0 11 31).bind fun v_3 => (if v_3 = 0 then (xcv h o0 11).bind fun _ => (fn172 o0 x2 h).bind fun r_5 => (if r_5.1 = 0 then (xgR r_5.2 o0 11 15).bind fun a_7 => (xaI r_5.2 13 a_7 40).bind fun v_8 => (if v_8 = 120 then (xcv r_5.2 o0 11).bind fun _ => (fn166 o0 4 x2 r_5.2).bind fun h_10 => l175_6 n o0 x1 x2 h_10 else (xcv r_5.2 o0 11).bind fun _ => (fn176 o0 x2 r_5.2).bind fun r_12 => (xcv r_12.2 o0 11).bind fun _ => (fn169 o0 r_12.1 r_12.2).bind fun r_13 => l175_6 n o0 x1 r_13.1 r_13.2) else (xcv r_5.2 o0 11).bind fun _ => (fn166 o0 2 x2 r_5.2).bind fun h_16 => l175_6 n o0 x1 x2 h_16) else j175_72 o0 x1 x2 h))
theorem l175_6_ok {xs : List Int32} {d : Nat} (hd : 7 ≤ d) : ∀ (n : Nat) {o0 : Option Nat} {x1 : Int32} {x2 : Int32} {h : xH} {r : xH}, l175_6 n o0 x1 x2 h = some r → xEv (xTa xs) d 175 (6, [xrv o0, .int x1, .int x2], [], h) (none, r) := by
  intro n
  induction n with
  | zero => intros; rename_i hf; cases hf
  | succ n ih =>
    intro o0 x1 x2 h r hf
    replace hf : ((xgI h o0 11 37).bind fun v_1 => (if v_1 ≤ x2 then j175_72 o0 x1 x2 h else (xgI h o0 11 31).bind fun v_3 => (if v_3 = 0 then (xcv h o0 11).bind fun _ => (fn172 o0 x2 h).bind fun r_5 => (if r_5.1 = 0 then (xgR r_5.2 o0 11 15).bind fun a_7 => (xaI r_5.2 13 a_7 40).bind fun v_8 => (if v_8 = 120 then (xcv r_5.2 o0 11).bind fun _ => (fn166 o0 4 x2 r_5.2).bind fun h_10 => l175_6 n o0 x1 x2 h_10 else (xcv r_5.2 o0 11).bind fun _ => (fn176 o0 x2 r_5.2).bind fun r_12 => (xcv r_12.2 o0 11).bind fun _ => (fn169 o0 r_12.1 r_12.2).bind fun r_13 => l175_6 n o0 x1 r_13.1 r_13.2) else (xcv r_5.2 o0 11).bind fun _ => (fn166 o0 2 x2 r_5.2).bind fun h_16 => l175_6 n o0 x1 x2 h_16) else j175_72 o0 x1 x2 h))) = some r := hf
    refine ev_do i175_6 rfl ?_
    refine sh_aload (i' := 0) (n := 1) i175_7 (Or.inr ⟨rfl, by decide⟩) rfl ?_
    obtain ⟨v_1, ev_1, hf⟩ := x_bind hf
    refine sh_getI i175_8 f175_224 ev_1 ?_
    refine ev_icmp (t := 72) i175_11 rfl (fun c_2 => ?_) (fun c_2 => ?_)
    · replace hf := x_pos (show v_1 ≤ x2 from c_2) hf
      exact j175_72_ok hd hf
    · replace hf := x_neg (show ¬ v_1 ≤ x2 from c_2) hf
      refine sh_aload (i' := 0) (n := 1) i175_14 (Or.inr ⟨rfl, by decide⟩) rfl ?_
      obtain ⟨v_3, ev_3, hf⟩ := x_bind hf
      refine sh_getI i175_15 f175_218 ev_3 ?_
      refine ev_if (t := 72) i175_18 rfl (fun c_4 => ?_) (fun c_4 => ?_)
      · replace hf := x_neg (show ¬ v_3 = 0 from c_4) hf
        exact j175_72_ok hd hf
      · replace hf := x_pos (show v_3 = 0 from Decidable.byContradiction (fun h9 => c_4 h9)) hf
        refine sh_aload (i' := 0) (n := 1) i175_21 (Or.inr ⟨rfl, by decide⟩) rfl ?_
        refine ev_do i175_22 rfl ?_
        obtain ⟨_, eu_18, hf⟩ := x_bind hf
        obtain ⟨r_5, er_5, hf⟩ := x_bind hf
        refine sh_inv (as := [.int x2]) (z := (some (.int r_5.1), r_5.2)) i175_23 v175_264 (Or.inl ⟨by decide, rfl⟩) m172 rfl (Nat.le_of_ble_eq_true rfl) eu_18 (fn172_call (by omega) er_5) ?_
        refine ev_if (t := 38) i175_26 rfl (fun c_6 => ?_) (fun c_6 => ?_)
        · replace hf := x_pos (show r_5.1 = 0 from c_6) hf
          refine sh_aload (i' := 0) (n := 1) i175_38 (Or.inr ⟨rfl, by decide⟩) rfl ?_
          obtain ⟨a_7, ea_7, hf⟩ := x_bind hf
          refine sh_getR i175_39 f175_50 ea_7 ?_
          refine ev_do i175_42 rfl ?_
          obtain ⟨v_8, ev_8, hf⟩ := x_bind hf
          refine sh_aldI (tg := 13) i175_44 (Or.inl ⟨rfl, rfl⟩) ev_8 ?_
          refine ev_do i175_45 rfl ?_
          refine ev_icmp (t := 59) i175_47 rfl (fun c_9 => ?_) (fun c_9 => ?_)
          · replace hf := x_neg (show ¬ v_8 = 120 from c_9) hf
            refine sh_aload (i' := 0) (n := 1) i175_59 (Or.inr ⟨rfl, by decide⟩) rfl ?_
            refine sh_aload (i' := 0) (n := 1) i175_60 (Or.inr ⟨rfl, by decide⟩) rfl ?_
            refine ev_do i175_61 rfl ?_
            obtain ⟨_, eu_15, hf⟩ := x_bind hf
            obtain ⟨r_12, er_12, hf⟩ := x_bind hf
            refine sh_inv (as := [.int x2]) (z := (some (.int r_12.1), r_12.2)) i175_62 v175_271 (Or.inl ⟨by decide, rfl⟩) m176 rfl (by simp [xcat, xrv_cat, xc_i, xc_j, xc_a, xc_f]) eu_15 (fn176_call (by omega) er_12) ?_
            obtain ⟨_, eu_14, hf⟩ := x_bind hf
            obtain ⟨r_13, er_13, hf⟩ := x_bind hf
            refine sh_inv (as := [.int r_12.1]) (z := (some (.int r_13.1), r_13.2)) i175_65 v175_255 (Or.inl ⟨by decide, rfl⟩) m169 rfl (Nat.le_of_ble_eq_true rfl) eu_14 (fn169_call (by omega) er_13) ?_
            refine sh_istore (i' := 2) (n := 1) i175_68 (Or.inr ⟨rfl, by decide⟩) (xokst_of (Nat.le_of_ble_eq_true rfl) rfl) ?_
            refine sh_goto (t := 6) i175_69 rfl ?_
            exact ih hf
          · replace hf := x_pos (show v_8 = 120 from Decidable.byContradiction (fun h9 => c_9 h9)) hf
            refine sh_aload (i' := 0) (n := 1) i175_50 (Or.inr ⟨rfl, by decide⟩) rfl ?_
            refine ev_do i175_51 rfl ?_
            refine ev_do i175_52 rfl ?_
            obtain ⟨_, eu_11, hf⟩ := x_bind hf
            obtain ⟨h_10, eh_10, hf⟩ := x_bind hf
            refine sh_inv (as := [.int x2, .int 4]) (z := (none, h_10)) i175_53 v175_267 (Or.inl ⟨by decide, rfl⟩) m166 rfl (Nat.le_of_ble_eq_true rfl) eu_11 (fn166_call (by omega) eh_10) ?_
            refine sh_goto (t := 6) i175_56 rfl ?_
            exact ih hf
        · replace hf := x_neg (show ¬ r_5.1 = 0 from c_6) hf
          refine sh_aload (i' := 0) (n := 1) i175_29 (Or.inr ⟨rfl, by decide⟩) rfl ?_
          refine ev_do i175_30 rfl ?_
          refine ev_do i175_31 rfl ?_
          obtain ⟨_, eu_17, hf⟩ := x_bind hf
          obtain ⟨h_16, eh_16, hf⟩ := x_bind hf
          refine sh_inv (as := [.int x2, .int 2]) (z := (none, h_16)) i175_32 v175_267 (Or.inl ⟨by decide, rfl⟩) m166 rfl (Nat.le_of_ble_eq_true rfl) eu_17 (fn166_call (by omega) eh_16) ?_
          refine sh_goto (t := 6) i175_35 rfl ?_
          exact ih hf
def fn175 (o0 : Option Nat) (x1 : Int32) (h : xH) : Option xH := (xcv h o0 11).bind fun _ => (fn169 o0 x1 h).bind fun r_1 => l175_6 xFuel o0 x1 r_1.1 r_1.2
theorem fn175_call {xs : List Int32} {d : Nat} (hd : 8 ≤ d) {o0 : Option Nat} {x1 : Int32} {h : xH} {r : xH} (hf : fn175 o0 x1 h = some r) : xCall (xTa xs) d 175 [xrv o0, .int x1] h (none, r) := by
  obtain ⟨d, rfl⟩ : ∃ d2, d = d2 + 1 := ⟨d - 1, by omega⟩
  replace hd : 7 ≤ d := by omega
  refine call_of2 (fl := [xrv o0, .int x1]) (Ls := [xrv o0, .int x1, .float 0]) m175 (by simp [xfl, xrv_cat, xc_i, xc_j, xc_a, xc_f]) (Nat.le_of_ble_eq_true rfl) rfl ?_
  unfold fn175 at hf
  refine sh_aload (i' := 0) (n := 1) i175_0 (Or.inr ⟨rfl, by decide⟩) rfl ?_
  refine ev_do i175_1 rfl ?_
  obtain ⟨_, eu_2, hf⟩ := x_bind hf
  obtain ⟨r_1, er_1, hf⟩ := x_bind hf
  refine sh_inv (as := [.int x1]) (z := (some (.int r_1.1), r_1.2)) i175_2 v175_255 (Or.inl ⟨by decide, rfl⟩) m169 rfl (Nat.le_of_ble_eq_true rfl) eu_2 (fn169_call (by omega) er_1) ?_
  refine sh_istore (i' := 2) (n := 1) i175_5 (Or.inr ⟨rfl, by decide⟩) (xokst_of (Nat.le_of_ble_eq_true rfl) rfl) ?_
  exact l175_6_ok hd xFuel hf
end
section
def j178_23  (o0 : Option Nat) (x1 : Int32) (x2 : Int32) (x3 : Int32) (h : xH) : Option (Int32 × xH) := some (x3, h)
theorem j178_23_ok {xs : List Int32} {d : Nat} (hd : 2 ≤ d) {o0 : Option Nat} {x1 : Int32} {x2 : Int32} {x3 : Int32} {h : xH} {r : (Int32 × xH)} (hf : j178_23 o0 x1 x2 x3 h = some r) : xEv (xTa xs) d 178 (23, [xrv o0, .int x1, .int x2, .int x3], [], h) (some (.int r.1), r.2) := by
  unfold j178_23 at hf
  refine ev_do i178_23 rfl ?_
  obtain rfl := Option.some.inj hf
  exact sh_iret i178_24 m178 rfl rfl
def l178_2  : Nat → Option Nat → Int32 → Int32 → Int32 → xH → Option (Int32 × xH)
  | 0 => fun _ _ _ _ _ => none
  | n + 1 => fun o0 x1 x2 x3 h => (if x2 ≤ x3 then j178_23 o0 x1 x2 x3 h else (xcv h o0 11).bind fun _ => (fn167 o0 x3 h).bind fun r_2 => (if r_2.1 = 10 then j178_23 o0 x1 x2 x3 r_2.2 else l178_2 n o0 x1 x2 (x3 + 1) r_2.2))
theorem l178_2_ok {xs : List Int32} {d : Nat} (hd : 2 ≤ d) : ∀ (n : Nat) {o0 : Option Nat} {x1 : Int32} {x2 : Int32} {x3 : Int32} {h : xH} {r : (Int32 × xH)}, l178_2 n o0 x1 x2 x3 h = some r → xEv (xTa xs) d 178 (2, [xrv o0, .int x1, .int x2, .int x3], [], h) (some (.int r.1), r.2) := by
  intro n
  induction n with
  | zero => intros; rename_i hf; cases hf
  | succ n ih =>
    intro o0 x1 x2 x3 h r hf
    replace hf : ((if x2 ≤ x3 then j178_23 o0 x1 x2 x3 h else (xcv h o0 11).bind fun _ => (fn167 o0 x3 h).bind fun r_2 => (if r_2.1 = 10 then j178_23 o0 x1 x2 x3 r_2.2 else l178_2 n o0 x1 x2 (x3 + 1) r_2.2))) = some r := hf
    refine ev_do i178_2 rfl ?_
    refine ev_do i178_3 rfl ?_
    refine ev_icmp (t := 23) i178_4 rfl (fun c_1 => ?_) (fun c_1 => ?_)
    · replace hf := x_pos (show x2 ≤ x3 from c_1) hf
      exact j178_23_ok hd hf
    · replace hf := x_neg (show ¬ x2 ≤ x3 from c_1) hf
      refine sh_aload (i' := 0) (n := 1) i178_7 (Or.inr ⟨rfl, by decide⟩) rfl ?_
      refine ev_do i178_8 rfl ?_
      obtain ⟨_, eu_4, hf⟩ := x_bind hf
      obtain ⟨r_2, er_2, hf⟩ := x_bind hf
      refine sh_inv (as := [.int x3]) (z := (some (.int r_2.1), r_2.2)) i178_9 v178_227 (Or.inl ⟨by decide, rfl⟩) m167 rfl (Nat.le_of_ble_eq_true rfl) eu_4 (fn167_call (by omega) er_2) ?_
      refine ev_do i178_12 rfl ?_
      refine ev_icmp (t := 23) i178_14 rfl (fun c_3 => ?_) (fun c_3 => ?_)
      · replace hf := x_pos (show r_2.1 = 10 from c_3) hf
        exact j178_23_ok hd hf
      · replace hf := x_neg (show ¬ r_2.1 = 10 from c_3) hf
        refine sh_inc (i' := 3) i178_17 rfl (xokst_of (Nat.le_of_ble_eq_true rfl) rfl) rfl ?_
        refine sh_goto (t := 2) i178_20 rfl ?_
        exact ih hf
def fn178 (o0 : Option Nat) (x1 : Int32) (x2 : Int32) (h : xH) : Option (Int32 × xH) := l178_2 xFuel o0 x1 x2 x1 h
theorem fn178_call {xs : List Int32} {d : Nat} (hd : 3 ≤ d) {o0 : Option Nat} {x1 : Int32} {x2 : Int32} {h : xH} {r : (Int32 × xH)} (hf : fn178 o0 x1 x2 h = some r) : xCall (xTa xs) d 178 [xrv o0, .int x1, .int x2] h (some (.int r.1), r.2) := by
  obtain ⟨d, rfl⟩ : ∃ d2, d = d2 + 1 := ⟨d - 1, by omega⟩
  replace hd : 2 ≤ d := by omega
  refine call_of2 (fl := [xrv o0, .int x1, .int x2]) (Ls := [xrv o0, .int x1, .int x2, .float 0]) m178 (by simp [xfl, xrv_cat, xc_i, xc_j, xc_a, xc_f]) (Nat.le_of_ble_eq_true rfl) rfl ?_
  unfold fn178 at hf
  refine ev_do i178_0 rfl ?_
  refine sh_istore (i' := 3) (n := 1) i178_1 (Or.inr ⟨rfl, by decide⟩) (xokst_of (Nat.le_of_ble_eq_true rfl) rfl) ?_
  exact l178_2_ok hd xFuel hf
end
section
def j179_37  (o0 : Option Nat) (x1 : Int32) (s0 : Int32) (h : xH) : Option (Int32 × xH) := (if s0 &&& 1 = s0 then some (s0, h) else none)
theorem j179_37_ok {xs : List Int32} {d : Nat} (hd : 2 ≤ d) {o0 : Option Nat} {x1 : Int32} {s0 : Int32} {h : xH} {r : (Int32 × xH)} (hf : j179_37 o0 x1 s0 h = some r) : xEv (xTa xs) d 179 (37, [xrv o0, .int x1], [.int s0], h) (some (.int r.1), r.2) := by
  unfold j179_37 at hf
  by_cases c_1 : s0 &&& 1 = s0
  · replace hf := x_pos c_1 hf
    obtain rfl := Option.some.inj hf
    exact sh_iret i179_37 m179 rfl (congrArg Value.int c_1)
  · replace hf := x_neg c_1 hf
    cases hf
def j179_36  (o0 : Option Nat) (x1 : Int32) (h : xH) : Option (Int32 × xH) := j179_37 o0 x1 0 h
theorem j179_36_ok {xs : List Int32} {d : Nat} (hd : 2 ≤ d) {o0 : Option Nat} {x1 : Int32} {h : xH} {r : (Int32 × xH)} (hf : j179_36 o0 x1 h = some r) : xEv (xTa xs) d 179 (36, [xrv o0, .int x1], [], h) (some (.int r.1), r.2) := by
  unfold j179_36 at hf
  refine ev_do i179_36 rfl ?_
  exact j179_37_ok hd hf
def j179_32  (o0 : Option Nat) (x1 : Int32) (h : xH) : Option (Int32 × xH) := j179_37 o0 x1 1 h
theorem j179_32_ok {xs : List Int32} {d : Nat} (hd : 2 ≤ d) {o0 : Option Nat} {x1 : Int32} {h : xH} {r : (Int32 × xH)} (hf : j179_32 o0 x1 h = some r) : xEv (xTa xs) d 179 (32, [xrv o0, .int x1], [], h) (some (.int r.1), r.2) := by
  unfold j179_32 at hf
  refine ev_do i179_32 rfl ?_
  refine sh_goto (t := 37) i179_33 rfl ?_
  exact j179_37_ok hd hf
def fn179 (o0 : Option Nat) (x1 : Int32) (h : xH) : Option (Int32 × xH) := (xcv h o0 11).bind fun _ => (fn167 o0 x1 h).bind fun r_1 => (if r_1.1 = 45 then (xgI r_1.2 o0 11 37).bind fun v_3 => (if (x1 + 1) = v_3 then j179_32 o0 x1 r_1.2 else (xcv r_1.2 o0 11).bind fun _ => (fn167 o0 (x1 + 1) r_1.2).bind fun r_5 => (if r_5.1 = 32 then j179_32 o0 x1 r_5.2 else j179_36 o0 x1 r_5.2)) else j179_36 o0 x1 r_1.2)
theorem fn179_call {xs : List Int32} {d : Nat} (hd : 3 ≤ d) {o0 : Option Nat} {x1 : Int32} {h : xH} {r : (Int32 × xH)} (hf : fn179 o0 x1 h = some r) : xCall (xTa xs) d 179 [xrv o0, .int x1] h (some (.int r.1), r.2) := by
  obtain ⟨d, rfl⟩ : ∃ d2, d = d2 + 1 := ⟨d - 1, by omega⟩
  replace hd : 2 ≤ d := by omega
  refine call_of2 (fl := [xrv o0, .int x1]) (Ls := [xrv o0, .int x1]) m179 (by simp [xfl, xrv_cat, xc_i, xc_j, xc_a, xc_f]) (Nat.le_of_ble_eq_true rfl) rfl ?_
  unfold fn179 at hf
  refine sh_aload (i' := 0) (n := 1) i179_0 (Or.inr ⟨rfl, by decide⟩) rfl ?_
  refine ev_do i179_1 rfl ?_
  obtain ⟨_, eu_8, hf⟩ := x_bind hf
  obtain ⟨r_1, er_1, hf⟩ := x_bind hf
  refine sh_inv (as := [.int x1]) (z := (some (.int r_1.1), r_1.2)) i179_2 v179_227 (Or.inl ⟨by decide, rfl⟩) m167 rfl (Nat.le_of_ble_eq_true rfl) eu_8 (fn167_call (by omega) er_1) ?_
  refine ev_do i179_5 rfl ?_
  refine ev_icmp (t := 36) i179_7 rfl (fun c_2 => ?_) (fun c_2 => ?_)
  · replace hf := x_neg (show ¬ r_1.1 = 45 from c_2) hf
    exact j179_36_ok hd hf
  · replace hf := x_pos (show r_1.1 = 45 from Decidable.byContradiction (fun h9 => c_2 h9)) hf
    refine ev_do i179_10 rfl ?_
    refine ev_do i179_11 rfl ?_
    refine ev_do i179_12 rfl ?_
    refine sh_aload (i' := 0) (n := 1) i179_13 (Or.inr ⟨rfl, by decide⟩) rfl ?_
    obtain ⟨v_3, ev_3, hf⟩ := x_bind hf
    refine sh_getI i179_14 f179_224 ev_3 ?_
    refine ev_icmp (t := 32) i179_17 rfl (fun c_4 => ?_) (fun c_4 => ?_)
    · replace hf := x_pos (show (x1 + 1) = v_3 from c_4) hf
      exact j179_32_ok hd hf
    · replace hf := x_neg (show ¬ (x1 + 1) = v_3 from c_4) hf
      refine sh_aload (i' := 0) (n := 1) i179_20 (Or.inr ⟨rfl, by decide⟩) rfl ?_
      refine ev_do i179_21 rfl ?_
      refine ev_do i179_22 rfl ?_
      refine ev_do i179_23 rfl ?_
      obtain ⟨_, eu_7, hf⟩ := x_bind hf
      obtain ⟨r_5, er_5, hf⟩ := x_bind hf
      refine sh_inv (as := [.int (x1 + 1)]) (z := (some (.int r_5.1), r_5.2)) i179_24 v179_227 (Or.inl ⟨by decide, rfl⟩) m167 rfl (Nat.le_of_ble_eq_true rfl) eu_7 (fn167_call (by omega) er_5) ?_
      refine ev_do i179_27 rfl ?_
      refine ev_icmp (t := 36) i179_29 rfl (fun c_6 => ?_) (fun c_6 => ?_)
      · replace hf := x_neg (show ¬ r_5.1 = 32 from c_6) hf
        exact j179_36_ok hd hf
      · replace hf := x_pos (show r_5.1 = 32 from Decidable.byContradiction (fun h9 => c_6 h9)) hf
        exact j179_32_ok hd hf
end
section
def j180_153  (o0 : Option Nat) (x1 : Int32) (x2 : Int32) (x3 : Int32) (x4 : Int32) (x5 : Int32) (h : xH) : Option xH := some h
theorem j180_153_ok {xs : List Int32} {d : Nat} (hd : 8 ≤ d) {o0 : Option Nat} {x1 : Int32} {x2 : Int32} {x3 : Int32} {x4 : Int32} {x5 : Int32} {h : xH} {r : xH} (hf : j180_153 o0 x1 x2 x3 x4 x5 h = some r) : xEv (xTa xs) d 180 (153, [xrv o0, .int x1, .int x2, .int x3, .int x4, .int x5], [], h) (none, r) := by
  unfold j180_153 at hf
  obtain rfl := Option.some.inj hf
  exact sh_vret i180_153 m180 rfl
def j180_98  (o0 : Option Nat) (x1 : Int32) (x2 : Int32) (x3 : Int32) (x4 : Int32) (x5 : Int32) (h : xH) : Option xH := (xcv h o0 11).bind fun _ => (fn166 o0 3 x1 h).bind fun h_1 => j180_153 o0 x1 x2 x3 x4 x5 h_1
theorem j180_98_ok {xs : List Int32} {d : Nat} (hd : 8 ≤ d) {o0 : Option Nat} {x1 : Int32} {x2 : Int32} {x3 : Int32} {x4 : Int32} {x5 : Int32} {h : xH} {r : xH} (hf : j180_98 o0 x1 x2 x3 x4 x5 h = some r) : xEv (xTa xs) d 180 (98, [xrv o0, .int x1, .int x2, .int x3, .int x4, .int x5], [], h) (none, r) := by
  unfold j180_98 at hf
  refine sh_aload (i' := 0) (n := 1) i180_98 (Or.inr ⟨rfl, by decide⟩) rfl ?_
  refine ev_do i180_99 rfl ?_
  refine ev_do i180_100 rfl ?_
  obtain ⟨_, eu_2, hf⟩ := x_bind hf
  obtain ⟨h_1, eh_1, hf⟩ := x_bind hf
  refine sh_inv (as := [.int x1, .int 3]) (z := (none, h_1)) i180_101 v180_267 (Or.inl ⟨by decide, rfl⟩) m166 rfl (Nat.le_of_ble_eq_true rfl) eu_2 (fn166_call (by omega) eh_1) ?_
  refine sh_goto (t := 153) i180_104 rfl ?_
  exact j180_153_ok hd hf
def j180_55  (o0 : Option Nat) (x1 : Int32) (x2 : Int32) (x3 : Int32) (s0 : Int32) (h : xH) : Option xH := (xgI h o0 11 35).bind fun v_1 => (if v_1 = 0 then (if (xrem x2 2) = 1 then j180_98 o0 x1 x2 x3 s0 (x2 / 2) h else (if 2 < (x2 / 2) then j180_98 o0 x1 x2 x3 s0 (x2 / 2) h else (if (x2 / 2) ≤ s0 then (xgR h o0 11 14).bind fun a_6 => (xaI h 13 a_6 40).bind fun v_7 => (if v_7 = 24 then (xcv h o0 11).bind fun _ => (fn166 o0 4 x1 h).bind fun h_9 => j180_153 o0 x1 x2 x3 s0 (x2 / 2) h_9 else (xcv h o0 11).bind fun _ => (fn173 o0 1 (x2 / 2) x1 h).bind fun h_11 => (xgR h_11 o0 11 23).bind fun a_12 => (xcv h_11 o0 11).bind fun _ => (fn174 o0 h_11).bind fun r_13 => (xaS r_13.2 14 (vp_nar .boolean) a_12 r_13.1 x3).bind fun h_14 => (xcv h_14 o0 11).bind fun _ => (fn175 o0 (x1 + 1) h_14).bind fun h_15 => j180_153 o0 x1 x2 x3 s0 (x2 / 2) h_15) else j180_98 o0 x1 x2 x3 s0 (x2 / 2) h))) else (xcv h o0 11).bind fun _ => (fn166 o0 2 x1 h).bind fun h_19 => j180_153 o0 x1 x2 x3 s0 (x2 / 2) h_19)
theorem j180_55_ok {xs : List Int32} {d : Nat} (hd : 8 ≤ d) {u4 : Value} {u5 : Value} {o0 : Option Nat} {x1 : Int32} {x2 : Int32} {x3 : Int32} {s0 : Int32} {h : xH} {r : xH} (hu4 : u4.category = 1) (hu5 : u5.category = 1) (hf : j180_55 o0 x1 x2 x3 s0 h = some r) : xEv (xTa xs) d 180 (55, [xrv o0, .int x1, .int x2, .int x3, u4, u5], [.int s0], h) (none, r) := by
  unfold j180_55 at hf
  refine sh_istore (i' := 4) (n := 2) i180_55 (Or.inl rfl) (xokst_of (Nat.le_of_ble_eq_true rfl) rfl) ?_
  refine ev_do i180_57 rfl ?_
  refine ev_do i180_58 rfl ?_
  refine sh_div i180_59 (by decide) ?_
  refine sh_istore (i' := 5) (n := 2) i180_60 (Or.inl rfl) (xokst_of (Nat.le_of_ble_eq_true rfl) rfl) ?_
  refine sh_aload (i' := 0) (n := 1) i180_62 (Or.inr ⟨rfl, by decide⟩) rfl ?_
  obtain ⟨v_1, ev_1, hf⟩ := x_bind hf
  refine sh_getI i180_63 f180_278 ev_1 ?_
  refine ev_if (t := 78) i180_66 rfl (fun c_2 => ?_) (fun c_2 => ?_)
  · replace hf := x_pos (show v_1 = 0 from c_2) hf
    refine ev_do i180_78 rfl ?_
    refine ev_do i180_79 rfl ?_
    refine sh_rem i180_80 (by decide) ?_
    refine ev_do i180_81 rfl ?_
    refine ev_icmp (t := 98) i180_82 rfl (fun c_3 => ?_) (fun c_3 => ?_)
    · replace hf := x_pos (show (xrem x2 2) = 1 from c_3) hf
      exact j180_98_ok hd hf
    · replace hf := x_neg (show ¬ (xrem x2 2) = 1 from c_3) hf
      refine ev_do i180_85 rfl ?_
      refine ev_do i180_87 rfl ?_
      refine ev_icmp (t := 98) i180_88 rfl (fun c_4 => ?_) (fun c_4 => ?_)
      · replace hf := x_pos (show 2 < (x2 / 2) from c_4) hf
        exact j180_98_ok hd hf
      · replace hf := x_neg (show ¬ 2 < (x2 / 2) from c_4) hf
        refine ev_do i180_91 rfl ?_
        refine ev_do i180_93 rfl ?_
        refine ev_icmp (t := 107) i180_95 rfl (fun c_5 => ?_) (fun c_5 => ?_)
        · replace hf := x_pos (show (x2 / 2) ≤ s0 from c_5) hf
          refine sh_aload (i' := 0) (n := 1) i180_107 (Or.inr ⟨rfl, by decide⟩) rfl ?_
          obtain ⟨a_6, ea_6, hf⟩ := x_bind hf
          refine sh_getR i180_108 f180_47 ea_6 ?_
          refine ev_do i180_111 rfl ?_
          obtain ⟨v_7, ev_7, hf⟩ := x_bind hf
          refine sh_aldI (tg := 13) i180_113 (Or.inl ⟨rfl, rfl⟩) ev_7 ?_
          refine ev_do i180_114 rfl ?_
          refine ev_icmp (t := 128) i180_116 rfl (fun c_8 => ?_) (fun c_8 => ?_)
          · replace hf := x_neg (show ¬ v_7 = 24 from c_8) hf
            refine sh_aload (i' := 0) (n := 1) i180_128 (Or.inr ⟨rfl, by decide⟩) rfl ?_
            refine ev_do i180_129 rfl ?_
            refine ev_do i180_130 rfl ?_
            refine ev_do i180_132 rfl ?_
            obtain ⟨_, eu_18, hf⟩ := x_bind hf
            obtain ⟨h_11, eh_11, hf⟩ := x_bind hf
            refine sh_inv (as := [.int x1, .int (x2 / 2), .int 1]) (z := (none, h_11)) i180_133 v180_301 (Or.inl ⟨by decide, rfl⟩) m173 rfl (Nat.le_of_ble_eq_true rfl) eu_18 (fn173_call (by omega) eh_11) ?_
            refine sh_aload (i' := 0) (n := 1) i180_136 (Or.inr ⟨rfl, by decide⟩) rfl ?_
            obtain ⟨a_12, ea_12, hf⟩ := x_bind hf
            refine sh_getR i180_137 f180_74 ea_12 ?_
            refine sh_aload (i' := 0) (n := 1) i180_140 (Or.inr ⟨rfl, by decide⟩) rfl ?_
            obtain ⟨_, eu_17, hf⟩ := x_bind hf
            obtain ⟨r_13, er_13, hf⟩ := x_bind hf
            refine sh_inv (as := []) (z := (some (.int r_13.1), r_13.2)) i180_141 v180_274 (Or.inl ⟨by decide, rfl⟩) m174 rfl (by simp [xcat, xrv_cat, xc_i, xc_j, xc_a, xc_f]) eu_17 (fn174_call (by omega) er_13) ?_
            refine ev_do i180_144 rfl ?_
            obtain ⟨h_14, eh_14, hf⟩ := x_bind hf
            refine sh_ast (tg := 14) i180_145 (Or.inr (Or.inr ⟨rfl, rfl, rfl⟩)) eh_14 ?_
            refine sh_aload (i' := 0) (n := 1) i180_146 (Or.inr ⟨rfl, by decide⟩) rfl ?_
            refine ev_do i180_147 rfl ?_
            refine ev_do i180_148 rfl ?_
            refine ev_do i180_149 rfl ?_
            obtain ⟨_, eu_16, hf⟩ := x_bind hf
            obtain ⟨h_15, eh_15, hf⟩ := x_bind hf
            refine sh_inv (as := [.int (x1 + 1)]) (z := (none, h_15)) i180_150 v180_305 (Or.inl ⟨by decide, rfl⟩) m175 rfl (Nat.le_of_ble_eq_true rfl) eu_16 (fn175_call (by omega) eh_15) ?_
            exact j180_153_ok hd hf
          · replace hf := x_pos (show v_7 = 24 from Decidable.byContradiction (fun h9 => c_8 h9)) hf
            refine sh_aload (i' := 0) (n := 1) i180_119 (Or.inr ⟨rfl, by decide⟩) rfl ?_
            refine ev_do i180_120 rfl ?_
            refine ev_do i180_121 rfl ?_
            obtain ⟨_, eu_10, hf⟩ := x_bind hf
            obtain ⟨h_9, eh_9, hf⟩ := x_bind hf
            refine sh_inv (as := [.int x1, .int 4]) (z := (none, h_9)) i180_122 v180_267 (Or.inl ⟨by decide, rfl⟩) m166 rfl (Nat.le_of_ble_eq_true rfl) eu_10 (fn166_call (by omega) eh_9) ?_
            refine sh_goto (t := 153) i180_125 rfl ?_
            exact j180_153_ok hd hf
        · replace hf := x_neg (show ¬ (x2 / 2) ≤ s0 from c_5) hf
          exact j180_98_ok hd hf
  · replace hf := x_neg (show ¬ v_1 = 0 from c_2) hf
    refine sh_aload (i' := 0) (n := 1) i180_69 (Or.inr ⟨rfl, by decide⟩) rfl ?_
    refine ev_do i180_70 rfl ?_
    refine ev_do i180_71 rfl ?_
    obtain ⟨_, eu_20, hf⟩ := x_bind hf
    obtain ⟨h_19, eh_19, hf⟩ := x_bind hf
    refine sh_inv (as := [.int x1, .int 2]) (z := (none, h_19)) i180_72 v180_267 (Or.inl ⟨by decide, rfl⟩) m166 rfl (Nat.le_of_ble_eq_true rfl) eu_20 (fn166_call (by omega) eh_19) ?_
    refine sh_goto (t := 153) i180_75 rfl ?_
    exact j180_153_ok hd hf
def j180_35  (o0 : Option Nat) (x1 : Int32) (x2 : Int32) (s0 : Int32) (h : xH) : Option xH := (if s0 = 0 then j180_55 o0 x1 x2 s0 0 h else (xgR h o0 11 17).bind fun a_2 => (xcv h o0 11).bind fun _ => (fn174 o0 h).bind fun r_3 => (xaI r_3.2 13 a_2 r_3.1).bind fun v_4 => j180_55 o0 x1 x2 s0 (v_4 + 1) r_3.2)
theorem j180_35_ok {xs : List Int32} {d : Nat} (hd : 8 ≤ d) {u3 : Value} {u4 : Value} {u5 : Value} {o0 : Option Nat} {x1 : Int32} {x2 : Int32} {s0 : Int32} {h : xH} {r : xH} (hu3 : u3.category = 1) (hu4 : u4.category = 1) (hu5 : u5.category = 1) (hf : j180_35 o0 x1 x2 s0 h = some r) : xEv (xTa xs) d 180 (35, [xrv o0, .int x1, .int x2, u3, u4, u5], [.int s0], h) (none, r) := by
  unfold j180_35 at hf
  refine sh_istore (i' := 3) (n := 1) i180_35 (Or.inr ⟨rfl, by decide⟩) (xokst_of (Nat.le_of_ble_eq_true rfl) rfl) ?_
  refine ev_do i180_36 rfl ?_
  refine ev_if (t := 54) i180_37 rfl (fun c_1 => ?_) (fun c_1 => ?_)
  · replace hf := x_pos (show s0 = 0 from c_1) hf
    refine ev_do i180_54 rfl ?_
    exact j180_55_ok hd hu4 hu5 hf
  · replace hf := x_neg (show ¬ s0 = 0 from c_1) hf
    refine sh_aload (i' := 0) (n := 1) i180_40 (Or.inr ⟨rfl, by decide⟩) rfl ?_
    obtain ⟨a_2, ea_2, hf⟩ := x_bind hf
    refine sh_getR i180_41 f180_56 ea_2 ?_
    refine sh_aload (i' := 0) (n := 1) i180_44 (Or.inr ⟨rfl, by decide⟩) rfl ?_
    obtain ⟨_, eu_5, hf⟩ := x_bind hf
    obtain ⟨r_3, er_3, hf⟩ := x_bind hf
    refine sh_inv (as := []) (z := (some (.int r_3.1), r_3.2)) i180_45 v180_274 (Or.inl ⟨by decide, rfl⟩) m174 rfl (by simp [xcat, xrv_cat, xc_i, xc_j, xc_a, xc_f]) eu_5 (fn174_call (by omega) er_3) ?_
    obtain ⟨v_4, ev_4, hf⟩ := x_bind hf
    refine sh_aldI (tg := 13) i180_48 (Or.inl ⟨rfl, rfl⟩) ev_4 ?_
    refine ev_do i180_49 rfl ?_
    refine ev_do i180_50 rfl ?_
    refine sh_goto (t := 55) i180_51 rfl ?_
    exact j180_55_ok hd hu4 hu5 hf
def j180_34  (o0 : Option Nat) (x1 : Int32) (x2 : Int32) (h : xH) : Option xH := j180_35 o0 x1 x2 0 h
theorem j180_34_ok {xs : List Int32} {d : Nat} (hd : 8 ≤ d) {u3 : Value} {u4 : Value} {u5 : Value} {o0 : Option Nat} {x1 : Int32} {x2 : Int32} {h : xH} {r : xH} (hu3 : u3.category = 1) (hu4 : u4.category = 1) (hu5 : u5.category = 1) (hf : j180_34 o0 x1 x2 h = some r) : xEv (xTa xs) d 180 (34, [xrv o0, .int x1, .int x2, u3, u4, u5], [], h) (none, r) := by
  unfold j180_34 at hf
  refine ev_do i180_34 rfl ?_
  exact j180_35_ok hd hu3 hu4 hu5 hf
def fn180 (o0 : Option Nat) (x1 : Int32) (x2 : Int32) (h : xH) : Option xH := (xgR h o0 11 14).bind fun a_1 => (xaI h 13 a_1 40).bind fun v_2 => (if v_2 ≤ 0 then j180_34 o0 x1 x2 h else (xgI h o0 11 36).bind fun v_4 => (if v_4 = 0 then (xgR h o0 11 16).bind fun a_6 => (xcv h o0 11).bind fun _ => (fn174 o0 h).bind fun r_7 => (xaI r_7.2 13 a_6 r_7.1).bind fun v_8 => (if v_8 = 1 then j180_35 o0 x1 x2 1 r_7.2 else j180_34 o0 x1 x2 r_7.2) else j180_34 o0 x1 x2 h))
theorem fn180_call {xs : List Int32} {d : Nat} (hd : 9 ≤ d) {o0 : Option Nat} {x1 : Int32} {x2 : Int32} {h : xH} {r : xH} (hf : fn180 o0 x1 x2 h = some r) : xCall (xTa xs) d 180 [xrv o0, .int x1, .int x2] h (none, r) := by
  obtain ⟨d, rfl⟩ : ∃ d2, d = d2 + 1 := ⟨d - 1, by omega⟩
  replace hd : 8 ≤ d := by omega
  refine call_of2 (fl := [xrv o0, .int x1, .int x2]) (Ls := [xrv o0, .int x1, .int x2, .float 0, .float 0, .float 0]) m180 (by simp [xfl, xrv_cat, xc_i, xc_j, xc_a, xc_f]) (Nat.le_of_ble_eq_true rfl) rfl ?_
  unfold fn180 at hf
  refine sh_aload (i' := 0) (n := 1) i180_0 (Or.inr ⟨rfl, by decide⟩) rfl ?_
  obtain ⟨a_1, ea_1, hf⟩ := x_bind hf
  refine sh_getR i180_1 f180_47 ea_1 ?_
  refine ev_do i180_4 rfl ?_
  obtain ⟨v_2, ev_2, hf⟩ := x_bind hf
  refine sh_aldI (tg := 13) i180_6 (Or.inl ⟨rfl, rfl⟩) ev_2 ?_
  refine ev_if (t := 34) i180_7 rfl (fun c_3 => ?_) (fun c_3 => ?_)
  · replace hf := x_pos (show v_2 ≤ 0 from c_3) hf
    exact j180_34_ok hd rfl rfl rfl hf
  · replace hf := x_neg (show ¬ v_2 ≤ 0 from c_3) hf
    refine sh_aload (i' := 0) (n := 1) i180_10 (Or.inr ⟨rfl, by decide⟩) rfl ?_
    obtain ⟨v_4, ev_4, hf⟩ := x_bind hf
    refine sh_getI i180_11 f180_282 ev_4 ?_
    refine ev_if (t := 34) i180_14 rfl (fun c_5 => ?_) (fun c_5 => ?_)
    · replace hf := x_neg (show ¬ v_4 = 0 from c_5) hf
      exact j180_34_ok hd rfl rfl rfl hf
    · replace hf := x_pos (show v_4 = 0 from Decidable.byContradiction (fun h9 => c_5 h9)) hf
      refine sh_aload (i' := 0) (n := 1) i180_17 (Or.inr ⟨rfl, by decide⟩) rfl ?_
      obtain ⟨a_6, ea_6, hf⟩ := x_bind hf
      refine sh_getR i180_18 f180_53 ea_6 ?_
      refine sh_aload (i' := 0) (n := 1) i180_21 (Or.inr ⟨rfl, by decide⟩) rfl ?_
      obtain ⟨_, eu_10, hf⟩ := x_bind hf
      obtain ⟨r_7, er_7, hf⟩ := x_bind hf
      refine sh_inv (as := []) (z := (some (.int r_7.1), r_7.2)) i180_22 v180_274 (Or.inl ⟨by decide, rfl⟩) m174 rfl (by simp [xcat, xrv_cat, xc_i, xc_j, xc_a, xc_f]) eu_10 (fn174_call (by omega) er_7) ?_
      obtain ⟨v_8, ev_8, hf⟩ := x_bind hf
      refine sh_aldI (tg := 13) i180_25 (Or.inl ⟨rfl, rfl⟩) ev_8 ?_
      refine ev_do i180_26 rfl ?_
      refine ev_icmp (t := 34) i180_27 rfl (fun c_9 => ?_) (fun c_9 => ?_)
      · replace hf := x_neg (show ¬ v_8 = 1 from c_9) hf
        exact j180_34_ok hd rfl rfl rfl hf
      · replace hf := x_pos (show v_8 = 1 from Decidable.byContradiction (fun h9 => c_9 h9)) hf
        refine ev_do i180_30 rfl ?_
        refine sh_goto (t := 35) i180_31 rfl ?_
        exact j180_35_ok hd rfl rfl rfl hf
end
section
def j182_89  (o0 : Option Nat) (x1 : Int32) (x2 : Int32) (x3 : Int32) (x4 : Int32) (h : xH) : Option (Int32 × xH) := (xpF h o0 11 37 .int (.int x3)).bind fun h_1 => (if x4 &&& 1 = x4 then some (x4, h_1) else none)
theorem j182_89_ok {xs : List Int32} {d : Nat} (hd : 3 ≤ d) {u5 : Value} {o0 : Option Nat} {x1 : Int32} {x2 : Int32} {x3 : Int32} {x4 : Int32} {h : xH} {r : (Int32 × xH)} (hu5 : u5.category = 1) (hf : j182_89 o0 x1 x2 x3 x4 h = some r) : xEv (xTa xs) d 182 (89, [xrv o0, .int x1, .int x2, .int x3, .int x4, u5], [], h) (some (.int r.1), r.2) := by
  unfold j182_89 at hf
  refine sh_aload (i' := 0) (n := 1) i182_89 (Or.inr ⟨rfl, by decide⟩) rfl ?_
  refine ev_do i182_90 rfl ?_
  obtain ⟨h_1, eh_1, hf⟩ := x_bind hf
  refine sh_put i182_91 f182_224 (by decide) rfl eh_1 ?_
  refine ev_do i182_94 rfl ?_
  by_cases c_2 : x4 &&& 1 = x4
  · replace hf := x_pos c_2 hf
    obtain rfl := Option.some.inj hf
    exact sh_iret i182_96 m182 rfl (congrArg Value.int c_2)
  · replace hf := x_neg c_2 hf
    cases hf
def j182_87  (o0 : Option Nat) (x1 : Int32) (x2 : Int32) (x3 : Int32) (x4 : Int32) (x5 : Int32) (s0 : Int32) (h : xH) : Option (Int32 × xH) := j182_89 o0 x1 x2 x3 s0 h
theorem j182_87_ok {xs : List Int32} {d : Nat} (hd : 3 ≤ d) {o0 : Option Nat} {x1 : Int32} {x2 : Int32} {x3 : Int32} {x4 : Int32} {x5 : Int32} {s0 : Int32} {h : xH} {r : (Int32 × xH)} (hf : j182_87 o0 x1 x2 x3 x4 x5 s0 h = some r) : xEv (xTa xs) d 182 (87, [xrv o0, .int x1, .int x2, .int x3, .int x4, .int x5], [.int s0], h) (some (.int r.1), r.2) := by
  unfold j182_87 at hf
  refine sh_istore (i' := 4) (n := 2) i182_87 (Or.inl rfl) (xokst_of (Nat.le_of_ble_eq_true rfl) rfl) ?_
  exact j182_89_ok hd rfl hf
def j182_82  (o0 : Option Nat) (x1 : Int32) (x2 : Int32) (x3 : Int32) (x4 : Int32) (x5 : Int32) (h : xH) : Option (Int32 × xH) := j182_87 o0 x1 x2 x3 x4 x5 1 h
theorem j182_82_ok {xs : List Int32} {d : Nat} (hd : 3 ≤ d) {o0 : Option Nat} {x1 : Int32} {x2 : Int32} {x3 : Int32} {x4 : Int32} {x5 : Int32} {h : xH} {r : (Int32 × xH)} (hf : j182_82 o0 x1 x2 x3 x4 x5 h = some r) : xEv (xTa xs) d 182 (82, [xrv o0, .int x1, .int x2, .int x3, .int x4, .int x5], [], h) (some (.int r.1), r.2) := by
  unfold j182_82 at hf
  refine ev_do i182_82 rfl ?_
  refine sh_goto (t := 87) i182_83 rfl ?_
  exact j182_87_ok hd hf
def fn182 (o0 : Option Nat) (x1 : Int32) (x2 : Int32) (h : xH) : Option (Int32 × xH) := (xcv h o0 11).bind fun _ => (fn169 o0 (x1 + 9) h).bind fun r_1 => (xgI r_1.2 o0 11 37).bind fun v_2 => (if v_2 ≤ r_1.1 then (xgI r_1.2 o0 11 37).bind fun v_4 => (if x2 ≤ (v_4 + 1) then j182_89 o0 x1 x2 v_4 1 r_1.2 else (xcv r_1.2 o0 11).bind fun _ => (fn178 o0 (v_4 + 1) x2 r_1.2).bind fun r_6 => (xpF r_6.2 o0 11 37 .int (.int r_6.1)).bind fun h_7 => (xcv h_7 o0 11).bind fun _ => (fn169 o0 (v_4 + 1) h_7).bind fun r_8 => (xgI r_8.2 o0 11 37).bind fun v_9 => (if r_8.1 = v_9 then j182_82 o0 x1 x2 v_4 1 r_8.1 r_8.2 else (xcv r_8.2 o0 11).bind fun _ => (fn167 o0 r_8.1 r_8.2).bind fun r_11 => (if r_11.1 = 64 then j182_82 o0 x1 x2 v_4 1 r_8.1 r_11.2 else (xcv r_11.2 o0 11).bind fun _ => (fn179 o0 r_8.1 r_11.2).bind fun r_13 => (if r_13.1 = 0 then j182_87 o0 x1 x2 v_4 1 r_8.1 0 r_13.2 else j182_82 o0 x1 x2 v_4 1 r_8.1 r_13.2)))) else some (0, r_1.2))
theorem fn182_call {xs : List Int32} {d : Nat} (hd : 4 ≤ d) {o0 : Option Nat} {x1 : Int32} {x2 : Int32} {h : xH} {r : (Int32 × xH)} (hf : fn182 o0 x1 x2 h = some r) : xCall (xTa xs) d 182 [xrv o0, .int x1, .int x2] h (some (.int r.1), r.2) := by
  obtain ⟨d, rfl⟩ : ∃ d2, d = d2 + 1 := ⟨d - 1, by omega⟩
  replace hd : 3 ≤ d := by omega
  refine call_of2 (fl := [xrv o0, .int x1, .int x2]) (Ls := [xrv o0, .int x1, .int x2, .float 0, .float 0, .float 0]) m182 (by simp [xfl, xrv_cat, xc_i, xc_j, xc_a, xc_f]) (Nat.le_of_ble_eq_true rfl) rfl ?_
  unfold fn182 at hf
  refine sh_aload (i' := 0) (n := 1) i182_0 (Or.inr ⟨rfl, by decide⟩) rfl ?_
  refine ev_do i182_1 rfl ?_
  refine ev_do i182_2 rfl ?_
  refine ev_do i182_4 rfl ?_
  obtain ⟨_, eu_19, hf⟩ := x_bind hf
  obtain ⟨r_1, er_1, hf⟩ := x_bind hf
  refine sh_inv (as := [.int (x1 + 9)]) (z := (some (.int r_1.1), r_1.2)) i182_5 v182_255 (Or.inl ⟨by decide, rfl⟩) m169 rfl (Nat.le_of_ble_eq_true rfl) eu_19 (fn169_call (by omega) er_1) ?_
  refine sh_aload (i' := 0) (n := 1) i182_8 (Or.inr ⟨rfl, by decide⟩) rfl ?_
  obtain ⟨v_2, ev_2, hf⟩ := x_bind hf
  refine sh_getI i182_9 f182_224 ev_2 ?_
  refine ev_icmp (t := 17) i182_12 rfl (fun c_3 => ?_) (fun c_3 => ?_)
  · replace hf := x_pos (show v_2 ≤ r_1.1 from c_3) hf
    refine sh_aload (i' := 0) (n := 1) i182_17 (Or.inr ⟨rfl, by decide⟩) rfl ?_
    obtain ⟨v_4, ev_4, hf⟩ := x_bind hf
    refine sh_getI i182_18 f182_224 ev_4 ?_
    refine sh_istore (i' := 3) (n := 1) i182_21 (Or.inr ⟨rfl, by decide⟩) (xokst_of (Nat.le_of_ble_eq_true rfl) rfl) ?_
    refine ev_do i182_22 rfl ?_
    refine sh_istore (i' := 4) (n := 2) i182_23 (Or.inl rfl) (xokst_of (Nat.le_of_ble_eq_true rfl) rfl) ?_
    refine ev_do i182_25 rfl ?_
    refine ev_do i182_26 rfl ?_
    refine ev_do i182_27 rfl ?_
    refine ev_do i182_28 rfl ?_
    refine ev_icmp (t := 89) i182_29 rfl (fun c_5 => ?_) (fun c_5 => ?_)
    · replace hf := x_pos (show x2 ≤ (v_4 + 1) from c_5) hf
      exact j182_89_ok hd rfl hf
    · replace hf := x_neg (show ¬ x2 ≤ (v_4 + 1) from c_5) hf
      refine sh_aload (i' := 0) (n := 1) i182_32 (Or.inr ⟨rfl, by decide⟩) rfl ?_
      refine sh_aload (i' := 0) (n := 1) i182_33 (Or.inr ⟨rfl, by decide⟩) rfl ?_
      refine ev_do i182_34 rfl ?_
      refine ev_do i182_35 rfl ?_
      refine ev_do i182_36 rfl ?_
      refine ev_do i182_37 rfl ?_
      obtain ⟨_, eu_18, hf⟩ := x_bind hf
      obtain ⟨r_6, er_6, hf⟩ := x_bind hf
      refine sh_inv (as := [.int x2, .int (v_4 + 1)]) (z := (some (.int r_6.1), r_6.2)) i182_38 v182_285 (Or.inl ⟨by decide, rfl⟩) m178 rfl (by simp [xcat, xrv_cat, xc_i, xc_j, xc_a, xc_f]) eu_18 (fn178_call (by omega) er_6) ?_
      obtain ⟨h_7, eh_7, hf⟩ := x_bind hf
      refine sh_put i182_41 f182_224 (by decide) rfl eh_7 ?_
      refine sh_aload (i' := 0) (n := 1) i182_44 (Or.inr ⟨rfl, by decide⟩) rfl ?_
      refine ev_do i182_45 rfl ?_
      refine ev_do i182_46 rfl ?_
      refine ev_do i182_47 rfl ?_
      obtain ⟨_, eu_17, hf⟩ := x_bind hf
      obtain ⟨r_8, er_8, hf⟩ := x_bind hf
      refine sh_inv (as := [.int (v_4 + 1)]) (z := (some (.int r_8.1), r_8.2)) i182_48 v182_255 (Or.inl ⟨by decide, rfl⟩) m169 rfl (Nat.le_of_ble_eq_true rfl) eu_17 (fn169_call (by omega) er_8) ?_
      refine sh_istore (i' := 5) (n := 2) i182_51 (Or.inl rfl) (xokst_of (Nat.le_of_ble_eq_true rfl) rfl) ?_
      refine ev_do i182_53 rfl ?_
      refine sh_aload (i' := 0) (n := 1) i182_55 (Or.inr ⟨rfl, by decide⟩) rfl ?_
      obtain ⟨v_9, ev_9, hf⟩ := x_bind hf
      refine sh_getI i182_56 f182_224 ev_9 ?_
      refine ev_icmp (t := 82) i182_59 rfl (fun c_10 => ?_) (fun c_10 => ?_)
      · replace hf := x_pos (show r_8.1 = v_9 from c_10) hf
        exact j182_82_ok hd hf
      · replace hf := x_neg (show ¬ r_8.1 = v_9 from c_10) hf
        refine sh_aload (i' := 0) (n := 1) i182_62 (Or.inr ⟨rfl, by decide⟩) rfl ?_
        refine ev_do i182_63 rfl ?_
        obtain ⟨_, eu_16, hf⟩ := x_bind hf
        obtain ⟨r_11, er_11, hf⟩ := x_bind hf
        refine sh_inv (as := [.int r_8.1]) (z := (some (.int r_11.1), r_11.2)) i182_65 v182_227 (Or.inl ⟨by decide, rfl⟩) m167 rfl (Nat.le_of_ble_eq_true rfl) eu_16 (fn167_call (by omega) er_11) ?_
        refine ev_do i182_68 rfl ?_
        refine ev_icmp (t := 82) i182_70 rfl (fun c_12 => ?_) (fun c_12 => ?_)
        · replace hf := x_pos (show r_11.1 = 64 from c_12) hf
          exact j182_82_ok hd hf
        · replace hf := x_neg (show ¬ r_11.1 = 64 from c_12) hf
          refine sh_aload (i' := 0) (n := 1) i182_73 (Or.inr ⟨rfl, by decide⟩) rfl ?_
          refine ev_do i182_74 rfl ?_
          obtain ⟨_, eu_15, hf⟩ := x_bind hf
          obtain ⟨r_13, er_13, hf⟩ := x_bind hf
          refine sh_inv (as := [.int r_8.1]) (z := (some (.int r_13.1), r_13.2)) i182_76 v182_292 (Or.inl ⟨by decide, rfl⟩) m179 rfl (Nat.le_of_ble_eq_true rfl) eu_15 (fn179_call (by omega) er_13) ?_
          refine ev_if (t := 86) i182_79 rfl (fun c_14 => ?_) (fun c_14 => ?_)
          · replace hf := x_pos (show r_13.1 = 0 from c_14) hf
            refine ev_do i182_86 rfl ?_
            exact j182_87_ok hd hf
          · replace hf := x_neg (show ¬ r_13.1 = 0 from c_14) hf
            exact j182_82_ok hd hf
  · replace hf := x_neg (show ¬ v_2 ≤ r_1.1 from c_3) hf
    refine ev_do i182_15 rfl ?_
    obtain rfl := Option.some.inj hf
    exact sh_iret i182_16 m182 rfl (by decide)
end
section
def j181_238  (o0 : Option Nat) (x1 : Int32) (x2 : Int32) (x3 : Int32) (x4 : Int32) (h : xH) : Option xH := some h
theorem j181_238_ok {xs : List Int32} {d : Nat} (hd : 8 ≤ d) {u5 : Value} {o0 : Option Nat} {x1 : Int32} {x2 : Int32} {x3 : Int32} {x4 : Int32} {h : xH} {r : xH} (hu5 : u5.category = 1) (hf : j181_238 o0 x1 x2 x3 x4 h = some r) : xEv (xTa xs) d 181 (238, [xrv o0, .int x1, .int x2, .int x3, .int x4, u5], [], h) (none, r) := by
  unfold j181_238 at hf
  obtain rfl := Option.some.inj hf
  exact sh_vret i181_238 m181 rfl
def j181_209 (k175 : Option Nat → Int32 → Int32 → Int32 → Int32 → Int32 → xH → Option xH) (o0 : Option Nat) (x1 : Int32) (x2 : Int32) (x3 : Int32) (x4 : Int32) (x5 : Int32) (h : xH) : Option xH := k175 o0 x1 x2 x3 x4 (x5 + 1) h
theorem j181_209_ok {xs : List Int32} {d : Nat} (hd : 8 ≤ d) {k175 : Option Nat → Int32 → Int32 → Int32 → Int32 → Int32 → xH → Option xH} (hk175 : ∀ {o0 : Option Nat} {x1 : Int32} {x2 : Int32} {x3 : Int32} {x4 : Int32} {x5 : Int32} {h : xH} {r : xH}, k175 o0 x1 x2 x3 x4 x5 h = some r → xEv (xTa xs) d 181 (175, [xrv o0, .int x1, .int x2, .int x3, .int x4, .int x5], [], h) (none, r)) {o0 : Option Nat} {x1 : Int32} {x2 : Int32} {x3 : Int32} {x4 : Int32} {x5 : Int32} {h : xH} {r : xH} (hf : j181_209 k175 o0 x1 x2 x3 x4 x5 h = some r) : xEv (xTa xs) d 181 (209, [xrv o0, .int x1, .int x2, .int x3, .int x4, .int x5], [], h) (none, r) := by
  unfold j181_209 at hf
  refine sh_inc (i' := 5) i181_209 rfl (xokst_of (Nat.le_of_ble_eq_true rfl) rfl) rfl ?_
  refine sh_goto (t := 175) i181_212 rfl ?_
  exact hk175 hf
def l181_175  : Nat → Option Nat → Int32 → Int32 → Int32 → Int32 → Int32 → xH → Option xH
  | 0 => fun _ _ _ _ _ _ _ => none
  | n + 1 => fun o0 x1 x2 x3 x4 x5 h => (xgR h o0 11 14).bind fun a_1 => (xaI h 13 a_1 40).bind fun v_2 => (if v_2 ≤ x5 then (xcv h o0 11).bind fun _ => (fn173 o0 7 0 x1 h).bind fun h_4 => j181_238 o0 x1 x2 x3 x4 h_4 else (xgR h o0 11 16).bind fun a_6 => (xaI h 13 a_6 (960 + x5)).bind fun v_7 => (if v_7 = 7 then (xcv h o0 11).bind fun _ => (fn166 o0 5 x1 h).bind fun h_9 => j181_209 (l181_175 n) o0 x1 x2 x3 x4 x5 h_9 else j181_209 (l181_175 n) o0 x1 x2 x3 x4 x5 h))
theorem l181_175_ok {xs : List Int32} {d : Nat} (hd : 8 ≤ d) : ∀ (n : Nat) {o0 : Option Nat} {x1 : Int32} {x2 : Int32} {x3 : Int32} {x4 : Int32} {x5 : Int32} {h : xH} {r : xH}, l181_175 n o0 x1 x2 x3 x4 x5 h = some r → xEv (xTa xs) d 181 (175, [xrv o0, .int x1, .int x2, .int x3, .int x4, .int x5], [], h) (none, r) := by
  intro n
  induction n with
  | zero => intros; rename_i hf; cases hf
  | succ n ih =>
    intro o0 x1 x2 x3 x4 x5 h r hf
    replace hf : ((xgR h o0 11 14).bind fun a_1 => (xaI h 13 a_1 40).bind fun v_2 => (if v_2 ≤ x5 then (xcv h o0 11).bind fun _ => (fn173 o0 7 0 x1 h).bind fun h_4 => j181_238 o0 x1 x2 x3 x4 h_4 else (xgR h o0 11 16).bind fun a_6 => (xaI h 13 a_6 (960 + x5)).bind fun v_7 => (if v_7 = 7 then (xcv h o0 11).bind fun _ => (fn166 o0 5 x1 h).bind fun h_9 => j181_209 (l181_175 n) o0 x1 x2 x3 x4 x5 h_9 else j181_209 (l181_175 n) o0 x1 x2 x3 x4 x5 h))) = some r := hf
    refine ev_do i181_175 rfl ?_
    refine sh_aload (i' := 0) (n := 1) i181_177 (Or.inr ⟨rfl, by decide⟩) rfl ?_
    obtain ⟨a_1, ea_1, hf⟩ := x_bind hf
    refine sh_getR i181_178 f181_47 ea_1 ?_
    refine ev_do i181_181 rfl ?_
    obtain ⟨v_2, ev_2, hf⟩ := x_bind hf
    refine sh_aldI (tg := 13) i181_183 (Or.inl ⟨rfl, rfl⟩) ev_2 ?_
    refine ev_icmp (t := 215) i181_184 rfl (fun c_3 => ?_) (fun c_3 => ?_)
    · replace hf := x_pos (show v_2 ≤ x5 from c_3) hf
      refine sh_aload (i' := 0) (n := 1) i181_215 (Or.inr ⟨rfl, by decide⟩) rfl ?_
      refine ev_do i181_216 rfl ?_
      refine ev_do i181_218 rfl ?_
      refine ev_do i181_219 rfl ?_
      obtain ⟨_, eu_5, hf⟩ := x_bind hf
      obtain ⟨h_4, eh_4, hf⟩ := x_bind hf
      refine sh_inv (as := [.int x1, .int 0, .int 7]) (z := (none, h_4)) i181_220 v181_301 (Or.inl ⟨by decide, rfl⟩) m173 rfl (Nat.le_of_ble_eq_true rfl) eu_5 (fn173_call (by omega) eh_4) ?_
      refine sh_goto (t := 238) i181_223 rfl ?_
      exact j181_238_ok hd rfl hf
    · replace hf := x_neg (show ¬ v_2 ≤ x5 from c_3) hf
      refine sh_aload (i' := 0) (n := 1) i181_187 (Or.inr ⟨rfl, by decide⟩) rfl ?_
      obtain ⟨a_6, ea_6, hf⟩ := x_bind hf
      refine sh_getR i181_188 f181_53 ea_6 ?_
      refine ev_do i181_191 rfl ?_
      refine ev_do i181_194 rfl ?_
      refine ev_do i181_196 rfl ?_
      obtain ⟨v_7, ev_7, hf⟩ := x_bind hf
      refine sh_aldI (tg := 13) i181_197 (Or.inl ⟨rfl, rfl⟩) ev_7 ?_
      refine ev_do i181_198 rfl ?_
      refine ev_icmp (t := 209) i181_200 rfl (fun c_8 => ?_) (fun c_8 => ?_)
      · replace hf := x_neg (show ¬ v_7 = 7 from c_8) hf
        exact j181_209_ok hd ih hf
      · replace hf := x_pos (show v_7 = 7 from Decidable.byContradiction (fun h9 => c_8 h9)) hf
        refine sh_aload (i' := 0) (n := 1) i181_203 (Or.inr ⟨rfl, by decide⟩) rfl ?_
        refine ev_do i181_204 rfl ?_
        refine ev_do i181_205 rfl ?_
        obtain ⟨_, eu_10, hf⟩ := x_bind hf
        obtain ⟨h_9, eh_9, hf⟩ := x_bind hf
        refine sh_inv (as := [.int x1, .int 5]) (z := (none, h_9)) i181_206 v181_267 (Or.inl ⟨by decide, rfl⟩) m166 rfl (Nat.le_of_ble_eq_true rfl) eu_10 (fn166_call (by omega) eh_9) ?_
        exact j181_209_ok hd ih hf
def j181_146  (o0 : Option Nat) (x1 : Int32) (x2 : Int32) (x3 : Int32) (x4 : Int32) (h : xH) : Option xH := (xgR h o0 11 14).bind fun a_1 => (xaI h 13 a_1 40).bind fun v_2 => (if v_2 = 24 then (xcv h o0 11).bind fun _ => (fn166 o0 4 x1 h).bind fun h_4 => j181_238 o0 x1 x2 x3 x4 h_4 else (if x4 = 0 then (xcv h o0 11).bind fun _ => (fn173 o0 0 0 x1 h).bind fun h_7 => (xcv h_7 o0 11).bind fun _ => (fn175 o0 x1 h_7).bind fun h_8 => j181_238 o0 x1 x2 x3 x4 h_8 else l181_175 xFuel o0 x1 x2 x3 x4 0 h))
theorem j181_146_ok {xs : List Int32} {d : Nat} (hd : 8 ≤ d) {u5 : Value} {o0 : Option Nat} {x1 : Int32} {x2 : Int32} {x3 : Int32} {x4 : Int32} {h : xH} {r : xH} (hu5 : u5.category = 1) (hf : j181_146 o0 x1 x2 x3 x4 h = some r) : xEv (xTa xs) d 181 (146, [xrv o0, .int x1, .int x2, .int x3, .int x4, u5], [], h) (none, r) := by
  unfold j181_146 at hf
  refine sh_aload (i' := 0) (n := 1) i181_146 (Or.inr ⟨rfl, by decide⟩) rfl ?_
  obtain ⟨a_1, ea_1, hf⟩ := x_bind hf
  refine sh_getR i181_147 f181_47 ea_1 ?_
  refine ev_do i181_150 rfl ?_
  obtain ⟨v_2, ev_2, hf⟩ := x_bind hf
  refine sh_aldI (tg := 13) i181_152 (Or.inl ⟨rfl, rfl⟩) ev_2 ?_
  refine ev_do i181_153 rfl ?_
  refine ev_icmp (t := 167) i181_155 rfl (fun c_3 => ?_) (fun c_3 => ?_)
  · replace hf := x_neg (show ¬ v_2 = 24 from c_3) hf
    refine ev_do i181_167 rfl ?_
    refine ev_if (t := 226) i181_169 rfl (fun c_6 => ?_) (fun c_6 => ?_)
    · replace hf := x_pos (show x4 = 0 from c_6) hf
      refine sh_aload (i' := 0) (n := 1) i181_226 (Or.inr ⟨rfl, by decide⟩) rfl ?_
      refine ev_do i181_227 rfl ?_
      refine ev_do i181_228 rfl ?_
      refine ev_do i181_229 rfl ?_
      obtain ⟨_, eu_10, hf⟩ := x_bind hf
      obtain ⟨h_7, eh_7, hf⟩ := x_bind hf
      refine sh_inv (as := [.int x1, .int 0, .int 0]) (z := (none, h_7)) i181_230 v181_301 (Or.inl ⟨by decide, rfl⟩) m173 rfl (Nat.le_of_ble_eq_true rfl) eu_10 (fn173_call (by omega) eh_7) ?_
      refine sh_aload (i' := 0) (n := 1) i181_233 (Or.inr ⟨rfl, by decide⟩) rfl ?_
      refine ev_do i181_234 rfl ?_
      obtain ⟨_, eu_9, hf⟩ := x_bind hf
      obtain ⟨h_8, eh_8, hf⟩ := x_bind hf
      refine sh_inv (as := [.int x1]) (z := (none, h_8)) i181_235 v181_305 (Or.inl ⟨by decide, rfl⟩) m175 rfl (Nat.le_of_ble_eq_true rfl) eu_9 (fn175_call (by omega) eh_8) ?_
      exact j181_238_ok hd hu5 hf
    · replace hf := x_neg (show ¬ x4 = 0 from c_6) hf
      refine ev_do i181_172 rfl ?_
      refine sh_istore (i' := 5) (n := 2) i181_173 (Or.inl rfl) (xokst_of (Nat.le_of_ble_eq_true rfl) rfl) ?_
      exact l181_175_ok hd xFuel hf
  · replace hf := x_pos (show v_2 = 24 from Decidable.byContradiction (fun h9 => c_3 h9)) hf
    refine sh_aload (i' := 0) (n := 1) i181_158 (Or.inr ⟨rfl, by decide⟩) rfl ?_
    refine ev_do i181_159 rfl ?_
    refine ev_do i181_160 rfl ?_
    obtain ⟨_, eu_5, hf⟩ := x_bind hf
    obtain ⟨h_4, eh_4, hf⟩ := x_bind hf
    refine sh_inv (as := [.int x1, .int 4]) (z := (none, h_4)) i181_161 v181_267 (Or.inl ⟨by decide, rfl⟩) m166 rfl (Nat.le_of_ble_eq_true rfl) eu_5 (fn166_call (by omega) eh_4) ?_
    refine sh_goto (t := 238) i181_164 rfl ?_
    exact j181_238_ok hd hu5 hf
def j181_137  (o0 : Option Nat) (x1 : Int32) (x2 : Int32) (x3 : Int32) (x4 : Int32) (h : xH) : Option xH := (xcv h o0 11).bind fun _ => (fn166 o0 2 x1 h).bind fun h_1 => j181_238 o0 x1 x2 x3 x4 h_1
theorem j181_137_ok {xs : List Int32} {d : Nat} (hd : 8 ≤ d) {u5 : Value} {o0 : Option Nat} {x1 : Int32} {x2 : Int32} {x3 : Int32} {x4 : Int32} {h : xH} {r : xH} (hu5 : u5.category = 1) (hf : j181_137 o0 x1 x2 x3 x4 h = some r) : xEv (xTa xs) d 181 (137, [xrv o0, .int x1, .int x2, .int x3, .int x4, u5], [], h) (none, r) := by
  unfold j181_137 at hf
  refine sh_aload (i' := 0) (n := 1) i181_137 (Or.inr ⟨rfl, by decide⟩) rfl ?_
  refine ev_do i181_138 rfl ?_
  refine ev_do i181_139 rfl ?_
  obtain ⟨_, eu_2, hf⟩ := x_bind hf
  obtain ⟨h_1, eh_1, hf⟩ := x_bind hf
  refine sh_inv (as := [.int x1, .int 2]) (z := (none, h_1)) i181_140 v181_267 (Or.inl ⟨by decide, rfl⟩) m166 rfl (Nat.le_of_ble_eq_true rfl) eu_2 (fn166_call (by omega) eh_1) ?_
  refine sh_goto (t := 238) i181_143 rfl ?_
  exact j181_238_ok hd hu5 hf
def j181_115  (o0 : Option Nat) (x1 : Int32) (x2 : Int32) (x3 : Int32) (s0 : Int32) (h : xH) : Option xH := (xgI h o0 11 35).bind fun v_1 => (if v_1 = 0 then (if s0 = 0 then (xcv h o0 11).bind fun _ => (fn172 o0 x1 h).bind fun r_4 => (if r_4.1 = 0 then j181_146 o0 x1 x2 x3 s0 r_4.2 else j181_137 o0 x1 x2 x3 s0 r_4.2) else j181_146 o0 x1 x2 x3 s0 h) else j181_137 o0 x1 x2 x3 s0 h)
theorem j181_115_ok {xs : List Int32} {d : Nat} (hd : 8 ≤ d) {u4 : Value} {u5 : Value} {o0 : Option Nat} {x1 : Int32} {x2 : Int32} {x3 : Int32} {s0 : Int32} {h : xH} {r : xH} (hu4 : u4.category = 1) (hu5 : u5.category = 1) (hf : j181_115 o0 x1 x2 x3 s0 h = some r) : xEv (xTa xs) d 181 (115, [xrv o0, .int x1, .int x2, .int x3, u4, u5], [.int s0], h) (none, r) := by
  unfold j181_115 at hf
  refine sh_istore (i' := 4) (n := 2) i181_115 (Or.inl rfl) (xokst_of (Nat.le_of_ble_eq_true rfl) rfl) ?_
  refine sh_aload (i' := 0) (n := 1) i181_117 (Or.inr ⟨rfl, by decide⟩) rfl ?_
  obtain ⟨v_1, ev_1, hf⟩ := x_bind hf
  refine sh_getI i181_118 f181_278 ev_1 ?_
  refine ev_if (t := 137) i181_121 rfl (fun c_2 => ?_) (fun c_2 => ?_)
  · replace hf := x_neg (show ¬ v_1 = 0 from c_2) hf
    exact j181_137_ok hd hu5 hf
  · replace hf := x_pos (show v_1 = 0 from Decidable.byContradiction (fun h9 => c_2 h9)) hf
    refine ev_do i181_124 rfl ?_
    refine ev_if (t := 146) i181_126 rfl (fun c_3 => ?_) (fun c_3 => ?_)
    · replace hf := x_neg (show ¬ s0 = 0 from c_3) hf
      exact j181_146_ok hd hu5 hf
    · replace hf := x_pos (show s0 = 0 from Decidable.byContradiction (fun h9 => c_3 h9)) hf
      refine sh_aload (i' := 0) (n := 1) i181_129 (Or.inr ⟨rfl, by decide⟩) rfl ?_
      refine ev_do i181_130 rfl ?_
      obtain ⟨_, eu_6, hf⟩ := x_bind hf
      obtain ⟨r_4, er_4, hf⟩ := x_bind hf
      refine sh_inv (as := [.int x1]) (z := (some (.int r_4.1), r_4.2)) i181_131 v181_264 (Or.inl ⟨by decide, rfl⟩) m172 rfl (Nat.le_of_ble_eq_true rfl) eu_6 (fn172_call (by omega) er_4) ?_
      refine ev_if (t := 146) i181_134 rfl (fun c_5 => ?_) (fun c_5 => ?_)
      · replace hf := x_pos (show r_4.1 = 0 from c_5) hf
        exact j181_146_ok hd hu5 hf
      · replace hf := x_neg (show ¬ r_4.1 = 0 from c_5) hf
        exact j181_137_ok hd hu5 hf
def j181_114  (o0 : Option Nat) (x1 : Int32) (x2 : Int32) (x3 : Int32) (h : xH) : Option xH := j181_115 o0 x1 x2 x3 0 h
theorem j181_114_ok {xs : List Int32} {d : Nat} (hd : 8 ≤ d) {u4 : Value} {u5 : Value} {o0 : Option Nat} {x1 : Int32} {x2 : Int32} {x3 : Int32} {h : xH} {r : xH} (hu4 : u4.category = 1) (hu5 : u5.category = 1) (hf : j181_114 o0 x1 x2 x3 h = some r) : xEv (xTa xs) d 181 (114, [xrv o0, .int x1, .int x2, .int x3, u4, u5], [], h) (none, r) := by
  unfold j181_114 at hf
  refine ev_do i181_114 rfl ?_
  exact j181_115_ok hd hu4 hu5 hf
def j181_65  (o0 : Option Nat) (x1 : Int32) (x2 : Int32) (x3 : Int32) (x4 : Int32) (h : xH) : Option xH := some h
theorem j181_65_ok {xs : List Int32} {d : Nat} (hd : 8 ≤ d) {u5 : Value} {o0 : Option Nat} {x1 : Int32} {x2 : Int32} {x3 : Int32} {x4 : Int32} {h : xH} {r : xH} (hu5 : u5.category = 1) (hf : j181_65 o0 x1 x2 x3 x4 h = some r) : xEv (xTa xs) d 181 (65, [xrv o0, .int x1, .int x2, .int x3, .int x4, u5], [], h) (none, r) := by
  unfold j181_65 at hf
  obtain rfl := Option.some.inj hf
  exact sh_vret i181_65 m181 rfl
def j181_51  (o0 : Option Nat) (x1 : Int32) (x2 : Int32) (x3 : Int32) (x4 : Int32) (h : xH) : Option xH := (xcv h o0 11).bind fun _ => (fn166 o0 2 x1 h).bind fun h_1 => j181_65 o0 x1 x2 x3 x4 h_1
theorem j181_51_ok {xs : List Int32} {d : Nat} (hd : 8 ≤ d) {u5 : Value} {o0 : Option Nat} {x1 : Int32} {x2 : Int32} {x3 : Int32} {x4 : Int32} {h : xH} {r : xH} (hu5 : u5.category = 1) (hf : j181_51 o0 x1 x2 x3 x4 h = some r) : xEv (xTa xs) d 181 (51, [xrv o0, .int x1, .int x2, .int x3, .int x4, u5], [], h) (none, r) := by
  unfold j181_51 at hf
  refine sh_aload (i' := 0) (n := 1) i181_51 (Or.inr ⟨rfl, by decide⟩) rfl ?_
  refine ev_do i181_52 rfl ?_
  refine ev_do i181_53 rfl ?_
  obtain ⟨_, eu_2, hf⟩ := x_bind hf
  obtain ⟨h_1, eh_1, hf⟩ := x_bind hf
  refine sh_inv (as := [.int x1, .int 2]) (z := (none, h_1)) i181_54 v181_267 (Or.inl ⟨by decide, rfl⟩) m166 rfl (Nat.le_of_ble_eq_true rfl) eu_2 (fn166_call (by omega) eh_1) ?_
  refine sh_goto (t := 65) i181_57 rfl ?_
  exact j181_65_ok hd hu5 hf
def j181_22  (o0 : Option Nat) (x1 : Int32) (x2 : Int32) (s0 : Int32) (h : xH) : Option xH := (if s0 = 0 then (xgR h o0 11 16).bind fun a_2 => (xcv h o0 11).bind fun _ => (fn174 o0 h).bind fun r_3 => (xaI r_3.2 13 a_2 r_3.1).bind fun v_4 => (if v_4 = 5 then j181_51 o0 x1 x2 s0 v_4 r_3.2 else (if v_4 = 6 then j181_51 o0 x1 x2 s0 v_4 r_3.2 else (xcv r_3.2 o0 11).bind fun _ => (fn175 o0 x1 r_3.2).bind fun h_7 => j181_65 o0 x1 x2 s0 v_4 h_7)) else (xcv h o0 11).bind fun _ => (fn168 o0 x1 8892760333877406068 8 h).bind fun r_10 => (if r_10.1 = 0 then j181_114 o0 x1 x2 s0 r_10.2 else (xcv r_10.2 o0 11).bind fun _ => (fn168 o0 (x1 + 8) 125 1 r_10.2).bind fun r_12 => (if r_12.1 = 0 then j181_114 o0 x1 x2 s0 r_12.2 else (xgI r_12.2 o0 11 34).bind fun v_14 => (if v_14 = 0 then j181_114 o0 x1 x2 s0 r_12.2 else (xcv r_12.2 o0 11).bind fun _ => (fn182 o0 x1 x2 r_12.2).bind fun r_16 => (if r_16.1 = 0 then j181_114 o0 x1 x2 s0 r_16.2 else j181_115 o0 x1 x2 s0 1 r_16.2)))))
theorem j181_22_ok {xs : List Int32} {d : Nat} (hd : 8 ≤ d) {u3 : Value} {u4 : Value} {u5 : Value} {o0 : Option Nat} {x1 : Int32} {x2 : Int32} {s0 : Int32} {h : xH} {r : xH} (hu3 : u3.category = 1) (hu4 : u4.category = 1) (hu5 : u5.category = 1) (hf : j181_22 o0 x1 x2 s0 h = some r) : xEv (xTa xs) d 181 (22, [xrv o0, .int x1, .int x2, u3, u4, u5], [.int s0], h) (none, r) := by
  unfold j181_22 at hf
  refine sh_istore (i' := 3) (n := 1) i181_22 (Or.inr ⟨rfl, by decide⟩) (xokst_of (Nat.le_of_ble_eq_true rfl) rfl) ?_
  refine ev_do i181_23 rfl ?_
  refine ev_if (t := 66) i181_24 rfl (fun c_1 => ?_) (fun c_1 => ?_)
  · replace hf := x_neg (show ¬ s0 = 0 from c_1) hf
    refine sh_aload (i' := 0) (n := 1) i181_66 (Or.inr ⟨rfl, by decide⟩) rfl ?_
    refine ev_do i181_67 rfl ?_
    refine ev_do i181_68 (show xpush? 3 ((xtJ (xTa xs) 181 308).map .long) 68 _ _ _ = _ from by rw [w181_308]; rfl) ?_
    refine ev_do i181_71 rfl ?_
    obtain ⟨_, eu_20, hf⟩ := x_bind hf
    obtain ⟨r_10, er_10, hf⟩ := x_bind hf
    refine sh_inv (as := [.int 8, .long 8892760333877406068, .int x1]) (z := (some (.int r_10.1), r_10.2)) i181_73 v181_234 (Or.inl ⟨by decide, rfl⟩) m168 rfl (Nat.le_of_ble_eq_true rfl) eu_20 (fn168_call (by omega) er_10) ?_
    refine ev_if (t := 114) i181_76 rfl (fun c_11 => ?_) (fun c_11 => ?_)
    · replace hf := x_pos (show r_10.1 = 0 from c_11) hf
      exact j181_114_ok hd hu4 hu5 hf
    · replace hf := x_neg (show ¬ r_10.1 = 0 from c_11) hf
      refine sh_aload (i' := 0) (n := 1) i181_79 (Or.inr ⟨rfl, by decide⟩) rfl ?_
      refine ev_do i181_80 rfl ?_
      refine ev_do i181_81 rfl ?_
      refine ev_do i181_83 rfl ?_
      refine ev_do i181_84 (show xpush? 3 ((xtJ (xTa xs) 181 310).map .long) 84 _ _ _ = _ from by rw [w181_310]; rfl) ?_
      refine ev_do i181_87 rfl ?_
      obtain ⟨_, eu_19, hf⟩ := x_bind hf
      obtain ⟨r_12, er_12, hf⟩ := x_bind hf
      refine sh_inv (as := [.int 1, .long 125, .int (x1 + 8)]) (z := (some (.int r_12.1), r_12.2)) i181_88 v181_234 (Or.inl ⟨by decide, rfl⟩) m168 rfl (Nat.le_of_ble_eq_true rfl) eu_19 (fn168_call (by omega) er_12) ?_
      refine ev_if (t := 114) i181_91 rfl (fun c_13 => ?_) (fun c_13 => ?_)
      · replace hf := x_pos (show r_12.1 = 0 from c_13) hf
        exact j181_114_ok hd hu4 hu5 hf
      · replace hf := x_neg (show ¬ r_12.1 = 0 from c_13) hf
        refine sh_aload (i' := 0) (n := 1) i181_94 (Or.inr ⟨rfl, by decide⟩) rfl ?_
        obtain ⟨v_14, ev_14, hf⟩ := x_bind hf
        refine sh_getI i181_95 f181_312 ev_14 ?_
        refine ev_if (t := 114) i181_98 rfl (fun c_15 => ?_) (fun c_15 => ?_)
        · replace hf := x_pos (show v_14 = 0 from c_15) hf
          exact j181_114_ok hd hu4 hu5 hf
        · replace hf := x_neg (show ¬ v_14 = 0 from c_15) hf
          refine sh_aload (i' := 0) (n := 1) i181_101 (Or.inr ⟨rfl, by decide⟩) rfl ?_
          refine ev_do i181_102 rfl ?_
          refine ev_do i181_103 rfl ?_
          obtain ⟨_, eu_18, hf⟩ := x_bind hf
          obtain ⟨r_16, er_16, hf⟩ := x_bind hf
          refine sh_inv (as := [.int x2, .int x1]) (z := (some (.int r_16.1), r_16.2)) i181_104 v181_315 (Or.inl ⟨by decide, rfl⟩) m182 rfl (Nat.le_of_ble_eq_true rfl) eu_18 (fn182_call (by omega) er_16) ?_
          refine ev_if (t := 114) i181_107 rfl (fun c_17 => ?_) (fun c_17 => ?_)
          · replace hf := x_pos (show r_16.1 = 0 from c_17) hf
            exact j181_114_ok hd hu4 hu5 hf
          · replace hf := x_neg (show ¬ r_16.1 = 0 from c_17) hf
            refine ev_do i181_110 rfl ?_
            refine sh_goto (t := 115) i181_111 rfl ?_
            exact j181_115_ok hd hu4 hu5 hf
  · replace hf := x_pos (show s0 = 0 from Decidable.byContradiction (fun h9 => c_1 h9)) hf
    refine sh_aload (i' := 0) (n := 1) i181_27 (Or.inr ⟨rfl, by decide⟩) rfl ?_
    obtain ⟨a_2, ea_2, hf⟩ := x_bind hf
    refine sh_getR i181_28 f181_53 ea_2 ?_
    refine sh_aload (i' := 0) (n := 1) i181_31 (Or.inr ⟨rfl, by decide⟩) rfl ?_
    obtain ⟨_, eu_9, hf⟩ := x_bind hf
    obtain ⟨r_3, er_3, hf⟩ := x_bind hf
    refine sh_inv (as := []) (z := (some (.int r_3.1), r_3.2)) i181_32 v181_274 (Or.inl ⟨by decide, rfl⟩) m174 rfl (by simp [xcat, xrv_cat, xc_i, xc_j, xc_a, xc_f]) eu_9 (fn174_call (by omega) er_3) ?_
    obtain ⟨v_4, ev_4, hf⟩ := x_bind hf
    refine sh_aldI (tg := 13) i181_35 (Or.inl ⟨rfl, rfl⟩) ev_4 ?_
    refine sh_istore (i' := 4) (n := 2) i181_36 (Or.inl rfl) (xokst_of (Nat.le_of_ble_eq_true rfl) rfl) ?_
    refine ev_do i181_38 rfl ?_
    refine ev_do i181_40 rfl ?_
    refine ev_icmp (t := 51) i181_41 rfl (fun c_5 => ?_) (fun c_5 => ?_)
    · replace hf := x_pos (show v_4 = 5 from c_5) hf
      exact j181_51_ok hd hu5 hf
    · replace hf := x_neg (show ¬ v_4 = 5 from c_5) hf
      refine ev_do i181_44 rfl ?_
      refine ev_do i181_46 rfl ?_
      refine ev_icmp (t := 60) i181_48 rfl (fun c_6 => ?_) (fun c_6 => ?_)
      · replace hf := x_neg (show ¬ v_4 = 6 from c_6) hf
        refine sh_aload (i' := 0) (n := 1) i181_60 (Or.inr ⟨rfl, by decide⟩) rfl ?_
        refine ev_do i181_61 rfl ?_
        obtain ⟨_, eu_8, hf⟩ := x_bind hf
        obtain ⟨h_7, eh_7, hf⟩ := x_bind hf
        refine sh_inv (as := [.int x1]) (z := (none, h_7)) i181_62 v181_305 (Or.inl ⟨by decide, rfl⟩) m175 rfl (Nat.le_of_ble_eq_true rfl) eu_8 (fn175_call (by omega) eh_7) ?_
        exact j181_65_ok hd hu5 hf
      · replace hf := x_pos (show v_4 = 6 from Decidable.byContradiction (fun h9 => c_6 h9)) hf
        exact j181_51_ok hd hu5 hf
def j181_17  (o0 : Option Nat) (x1 : Int32) (x2 : Int32) (h : xH) : Option xH := j181_22 o0 x1 x2 1 h
theorem j181_17_ok {xs : List Int32} {d : Nat} (hd : 8 ≤ d) {u3 : Value} {u4 : Value} {u5 : Value} {o0 : Option Nat} {x1 : Int32} {x2 : Int32} {h : xH} {r : xH} (hu3 : u3.category = 1) (hu4 : u4.category = 1) (hu5 : u5.category = 1) (hf : j181_17 o0 x1 x2 h = some r) : xEv (xTa xs) d 181 (17, [xrv o0, .int x1, .int x2, u3, u4, u5], [], h) (none, r) := by
  unfold j181_17 at hf
  refine ev_do i181_17 rfl ?_
  refine sh_goto (t := 22) i181_18 rfl ?_
  exact j181_22_ok hd hu3 hu4 hu5 hf
def fn181 (o0 : Option Nat) (x1 : Int32) (x2 : Int32) (h : xH) : Option xH := (xgR h o0 11 14).bind fun a_1 => (xaI h 13 a_1 40).bind fun v_2 => (if v_2 = 0 then j181_17 o0 x1 x2 h else (xgI h o0 11 36).bind fun v_4 => (if v_4 = 0 then j181_22 o0 x1 x2 0 h else j181_17 o0 x1 x2 h))
theorem fn181_call {xs : List Int32} {d : Nat} (hd : 9 ≤ d) {o0 : Option Nat} {x1 : Int32} {x2 : Int32} {h : xH} {r : xH} (hf : fn181 o0 x1 x2 h = some r) : xCall (xTa xs) d 181 [xrv o0, .int x1, .int x2] h (none, r) := by
  obtain ⟨d, rfl⟩ : ∃ d2, d = d2 + 1 := ⟨d - 1, by omega⟩
  replace hd : 8 ≤ d := by omega
  refine call_of2 (fl := [xrv o0, .int x1, .int x2]) (Ls := [xrv o0, .int x1, .int x2, .float 0, .float 0, .float 0]) m181 (by simp [xfl, xrv_cat, xc_i, xc_j, xc_a, xc_f]) (Nat.le_of_ble_eq_true rfl) rfl ?_
  unfold fn181 at hf
  refine sh_aload (i' := 0) (n := 1) i181_0 (Or.inr ⟨rfl, by decide⟩) rfl ?_
  obtain ⟨a_1, ea_1, hf⟩ := x_bind hf
  refine sh_getR i181_1 f181_47 ea_1 ?_
  refine ev_do i181_4 rfl ?_
  obtain ⟨v_2, ev_2, hf⟩ := x_bind hf
  refine sh_aldI (tg := 13) i181_6 (Or.inl ⟨rfl, rfl⟩) ev_2 ?_
  refine ev_if (t := 17) i181_7 rfl (fun c_3 => ?_) (fun c_3 => ?_)
  · replace hf := x_pos (show v_2 = 0 from c_3) hf
    exact j181_17_ok hd rfl rfl rfl hf
  · replace hf := x_neg (show ¬ v_2 = 0 from c_3) hf
    refine sh_aload (i' := 0) (n := 1) i181_10 (Or.inr ⟨rfl, by decide⟩) rfl ?_
    obtain ⟨v_4, ev_4, hf⟩ := x_bind hf
    refine sh_getI i181_11 f181_282 ev_4 ?_
    refine ev_if (t := 21) i181_14 rfl (fun c_5 => ?_) (fun c_5 => ?_)
    · replace hf := x_pos (show v_4 = 0 from c_5) hf
      refine ev_do i181_21 rfl ?_
      exact j181_22_ok hd rfl rfl rfl hf
    · replace hf := x_neg (show ¬ v_4 = 0 from c_5) hf
      exact j181_17_ok hd rfl rfl rfl hf
end
