section
def j166_17  (o0 : Option Nat) (x1 : Int32) (x2 : Int32) (h : xH) : Option xH := some h
theorem j166_17_ok {xs : List Int32} {d : Nat} (hd : 1 ≤ d) {o0 : Option Nat} {x1 : Int32} {x2 : Int32} {h : xH} {r : xH} (hf : j166_17 o0 x1 x2 h = some r) : xEv (xTa xs) d 166 (17, [xrv o0, .int x1, .int x2], [], h) (none, r) := by
  unfold j166_17 at hf
  obtain rfl := Option.some.inj hf
  exact sh_vret i166_17 m166 rfl
def fn166 (o0 : Option Nat) (x1 : Int32) (x2 : Int32) (h : xH) : Option xH := (xgI h o0 11 31).bind fun v_1 => (if v_1 = 0 then (xpF h o0 11 31 .int (.int x1)).bind fun h_3 => (xpF h_3 o0 11 32 .int (.int x2)).bind fun h_4 => j166_17 o0 x1 x2 h_4 else j166_17 o0 x1 x2 h)
theorem fn166_call {xs : List Int32} {d : Nat} (hd : 2 ≤ d) {o0 : Option Nat} {x1 : Int32} {x2 : Int32} {h : xH} {r : xH} (hf : fn166 o0 x1 x2 h = some r) : xCall (xTa xs) d 166 [xrv o0, .int x1, .int x2] h (none, r) := by
  obtain ⟨d, rfl⟩ : ∃ d2, d = d2 + 1 := ⟨d - 1, by omega⟩
  replace hd : 1 ≤ d := by omega
  refine call_of2 (fl := [xrv o0, .int x1, .int x2]) (Ls := [xrv o0, .int x1, .int x2]) m166 (by simp [xfl, xrv_cat, xc_i, xc_j, xc_a, xc_f]) (Nat.le_of_ble_eq_true rfl) rfl ?_
  unfold fn166 at hf
  refine sh_aload (i' := 0) (n := 1) i166_0 (Or.inr ⟨rfl, by decide⟩) rfl ?_
  obtain ⟨v_1, ev_1, hf⟩ := x_bind hf
  refine sh_getI i166_1 f166_218 ev_1 ?_
  refine ev_if (t := 17) i166_4 rfl (fun c_2 => ?_) (fun c_2 => ?_)
  · replace hf := x_neg (show ¬ v_1 = 0 from c_2) hf
    exact j166_17_ok hd hf
  · replace hf := x_pos (show v_1 = 0 from Decidable.byContradiction (fun h9 => c_2 h9)) hf
    refine sh_aload (i' := 0) (n := 1) i166_7 (Or.inr ⟨rfl, by decide⟩) rfl ?_
    refine ev_do i166_8 rfl ?_
    obtain ⟨h_3, eh_3, hf⟩ := x_bind hf
    refine sh_put i166_9 f166_218 (by decide) rfl eh_3 ?_
    refine sh_aload (i' := 0) (n := 1) i166_12 (Or.inr ⟨rfl, by decide⟩) rfl ?_
    refine ev_do i166_13 rfl ?_
    obtain ⟨h_4, eh_4, hf⟩ := x_bind hf
    refine sh_put i166_14 f166_221 (by decide) rfl eh_4 ?_
    exact j166_17_ok hd hf
end
section
def fn167 (o0 : Option Nat) (x1 : Int32) (h : xH) : Option (Int32 × xH) := (xgR h o0 11 12).bind fun a_1 => (xaI h 13 a_1 (24000 + x1)).bind fun v_2 => some (v_2, h)
theorem fn167_call {xs : List Int32} {d : Nat} (hd : 2 ≤ d) {o0 : Option Nat} {x1 : Int32} {h : xH} {r : (Int32 × xH)} (hf : fn167 o0 x1 h = some r) : xCall (xTa xs) d 167 [xrv o0, .int x1] h (some (.int r.1), r.2) := by
  obtain ⟨d, rfl⟩ : ∃ d2, d = d2 + 1 := ⟨d - 1, by omega⟩
  replace hd : 1 ≤ d := by omega
  refine call_of2 (fl := [xrv o0, .int x1]) (Ls := [xrv o0, .int x1]) m167 (by simp [xfl, xrv_cat, xc_i, xc_j, xc_a, xc_f]) (Nat.le_of_ble_eq_true rfl) rfl ?_
  unfold fn167 at hf
  refine sh_aload (i' := 0) (n := 1) i167_0 (Or.inr ⟨rfl, by decide⟩) rfl ?_
  obtain ⟨a_1, ea_1, hf⟩ := x_bind hf
  refine sh_getR i167_1 f167_41 ea_1 ?_
  refine ev_do i167_4 rfl ?_
  refine ev_do i167_7 rfl ?_
  refine ev_do i167_8 rfl ?_
  obtain ⟨v_2, ev_2, hf⟩ := x_bind hf
  refine sh_aldI (tg := 13) i167_9 (Or.inl ⟨rfl, rfl⟩) ev_2 ?_
  obtain rfl := Option.some.inj hf
  exact sh_iret i167_10 m167 rfl rfl
end
section
def j168_74  (o0 : Option Nat) (x1 : Int32) (w2 : Int64) (x4 : Int32) (x5 : Int32) (x6 : Int32) (h : xH) : Option (Int32 × xH) := (if x5 &&& 1 = x5 then some (x5, h) else none)
theorem j168_74_ok {xs : List Int32} {d : Nat} (hd : 2 ≤ d) {o0 : Option Nat} {x1 : Int32} {w2 : Int64} {x4 : Int32} {x5 : Int32} {x6 : Int32} {h : xH} {r : (Int32 × xH)} (hf : j168_74 o0 x1 w2 x4 x5 x6 h = some r) : xEv (xTa xs) d 168 (74, [xrv o0, .int x1, .long w2, .float 0, .int x4, .int x5, .int x6], [], h) (some (.int r.1), r.2) := by
  unfold j168_74 at hf
  refine ev_do i168_74 rfl ?_
  by_cases c_1 : x5 &&& 1 = x5
  · replace hf := x_pos c_1 hf
    obtain rfl := Option.some.inj hf
    exact sh_iret i168_76 m168 rfl (congrArg Value.int c_1)
  · replace hf := x_neg c_1 hf
    cases hf
def j168_66 (k21 : Option Nat → Int32 → Int64 → Int32 → Int32 → Int32 → xH → Option (Int32 × xH)) (o0 : Option Nat) (x1 : Int32) (w2 : Int64) (x4 : Int32) (x5 : Int32) (x6 : Int32) (s0 : Int32) (h : xH) : Option (Int32 × xH) := k21 o0 x1 w2 x4 s0 (x6 + 1) h
theorem j168_66_ok {xs : List Int32} {d : Nat} (hd : 2 ≤ d) {k21 : Option Nat → Int32 → Int64 → Int32 → Int32 → Int32 → xH → Option (Int32 × xH)} (hk21 : ∀ {o0 : Option Nat} {x1 : Int32} {w2 : Int64} {x4 : Int32} {x5 : Int32} {x6 : Int32} {h : xH} {r : (Int32 × xH)}, k21 o0 x1 w2 x4 x5 x6 h = some r → xEv (xTa xs) d 168 (21, [xrv o0, .int x1, .long w2, .float 0, .int x4, .int x5, .int x6], [], h) (some (.int r.1), r.2)) {o0 : Option Nat} {x1 : Int32} {w2 : Int64} {x4 : Int32} {x5 : Int32} {x6 : Int32} {s0 : Int32} {h : xH} {r : (Int32 × xH)} (hf : j168_66 k21 o0 x1 w2 x4 x5 x6 s0 h = some r) : xEv (xTa xs) d 168 (66, [xrv o0, .int x1, .long w2, .float 0, .int x4, .int x5, .int x6], [.int s0], h) (some (.int r.1), r.2) := by
  unfold j168_66 at hf
  refine sh_istore (i' := 5) (n := 2) i168_66 (Or.inl rfl) (xokst_of (Nat.le_of_ble_eq_true rfl) rfl) ?_
  refine sh_inc (i' := 6) i168_68 rfl (xokst_of (Nat.le_of_ble_eq_true rfl) rfl) rfl ?_
  refine sh_goto (t := 21) i168_71 rfl ?_
  exact hk21 hf
def l168_21  : Nat → Option Nat → Int32 → Int64 → Int32 → Int32 → Int32 → xH → Option (Int32 × xH)
  | 0 => fun _ _ _ _ _ _ _ => none
  | n + 1 => fun o0 x1 w2 x4 x5 x6 h => (if x4 ≤ x6 then j168_74 o0 x1 w2 x4 x5 x6 h else (if x5 = 0 then j168_74 o0 x1 w2 x4 x5 x6 h else (xcv h o0 11).bind fun _ => (fn167 o0 (x1 + x6) h).bind fun r_3 => (if r_3.1 = (((w2 >>> ((8 * ((x4 - 1) - x6)).toInt64 &&& 63)) &&& 255).toInt32) then j168_66 (l168_21 n) o0 x1 w2 x4 x5 x6 1 r_3.2 else j168_66 (l168_21 n) o0 x1 w2 x4 x5 x6 0 r_3.2)))
theorem l168_21_ok {xs : List Int32} {d : Nat} (hd : 2 ≤ d) : ∀ (n : Nat) {o0 : Option Nat} {x1 : Int32} {w2 : Int64} {x4 : Int32} {x5 : Int32} {x6 : Int32} {h : xH} {r : (Int32 × xH)}, l168_21 n o0 x1 w2 x4 x5 x6 h = some r → xEv (xTa xs) d 168 (21, [xrv o0, .int x1, .long w2, .float 0, .int x4, .int x5, .int x6], [], h) (some (.int r.1), r.2) := by
  intro n
  induction n with
  | zero => intros; rename_i hf; cases hf
  | succ n ih =>
    intro o0 x1 w2 x4 x5 x6 h r hf
    replace hf : ((if x4 ≤ x6 then j168_74 o0 x1 w2 x4 x5 x6 h else (if x5 = 0 then j168_74 o0 x1 w2 x4 x5 x6 h else (xcv h o0 11).bind fun _ => (fn167 o0 (x1 + x6) h).bind fun r_3 => (if r_3.1 = (((w2 >>> ((8 * ((x4 - 1) - x6)).toInt64 &&& 63)) &&& 255).toInt32) then j168_66 (l168_21 n) o0 x1 w2 x4 x5 x6 1 r_3.2 else j168_66 (l168_21 n) o0 x1 w2 x4 x5 x6 0 r_3.2)))) = some r := hf
    refine ev_do i168_21 rfl ?_
    refine ev_do i168_23 rfl ?_
    refine ev_icmp (t := 74) i168_25 rfl (fun c_1 => ?_) (fun c_1 => ?_)
    · replace hf := x_pos (show x4 ≤ x6 from c_1) hf
      exact j168_74_ok hd hf
    · replace hf := x_neg (show ¬ x4 ≤ x6 from c_1) hf
      refine ev_do i168_28 rfl ?_
      refine ev_if (t := 74) i168_30 rfl (fun c_2 => ?_) (fun c_2 => ?_)
      · replace hf := x_pos (show x5 = 0 from c_2) hf
        exact j168_74_ok hd hf
      · replace hf := x_neg (show ¬ x5 = 0 from c_2) hf
        refine sh_aload (i' := 0) (n := 1) i168_33 (Or.inr ⟨rfl, by decide⟩) rfl ?_
        refine ev_do i168_34 rfl ?_
        refine ev_do i168_35 rfl ?_
        refine ev_do i168_37 rfl ?_
        obtain ⟨_, eu_5, hf⟩ := x_bind hf
        obtain ⟨r_3, er_3, hf⟩ := x_bind hf
        refine sh_inv (as := [.int (x1 + x6)]) (z := (some (.int r_3.1), r_3.2)) i168_38 v168_227 (Or.inl ⟨by decide, rfl⟩) m167 rfl (Nat.le_of_ble_eq_true rfl) eu_5 (fn167_call (by omega) er_3) ?_
        refine ev_do i168_41 rfl ?_
        refine ev_do i168_42 rfl ?_
        refine ev_do i168_44 rfl ?_
        refine ev_do i168_46 rfl ?_
        refine ev_do i168_47 rfl ?_
        refine ev_do i168_48 rfl ?_
        refine ev_do i168_50 rfl ?_
        refine ev_do i168_51 rfl ?_
        refine ev_do i168_52 rfl ?_
        refine ev_do i168_53 (show xpush? 3 ((xtJ (xTa xs) 168 230).map .long) 53 _ _ _ = _ from by rw [w168_230]; rfl) ?_
        refine ev_do i168_56 rfl ?_
        refine ev_do i168_57 rfl ?_
        refine ev_icmp (t := 65) i168_58 rfl (fun c_4 => ?_) (fun c_4 => ?_)
        · replace hf := x_neg (show ¬ r_3.1 = (((w2 >>> ((8 * ((x4 - 1) - x6)).toInt64 &&& 63)) &&& 255).toInt32) from c_4) hf
          refine ev_do i168_65 rfl ?_
          exact j168_66_ok hd ih hf
        · replace hf := x_pos (show r_3.1 = (((w2 >>> ((8 * ((x4 - 1) - x6)).toInt64 &&& 63)) &&& 255).toInt32) from Decidable.byContradiction (fun h9 => c_4 h9)) hf
          refine ev_do i168_61 rfl ?_
          refine sh_goto (t := 66) i168_62 rfl ?_
          exact j168_66_ok hd ih hf
def j168_16  (o0 : Option Nat) (x1 : Int32) (w2 : Int64) (x4 : Int32) (s0 : Int32) (h : xH) : Option (Int32 × xH) := l168_21 xFuel o0 x1 w2 x4 s0 0 h
theorem j168_16_ok {xs : List Int32} {d : Nat} (hd : 2 ≤ d) {u5 : Value} {u6 : Value} {o0 : Option Nat} {x1 : Int32} {w2 : Int64} {x4 : Int32} {s0 : Int32} {h : xH} {r : (Int32 × xH)} (hu5 : u5.category = 1) (hu6 : u6.category = 1) (hf : j168_16 o0 x1 w2 x4 s0 h = some r) : xEv (xTa xs) d 168 (16, [xrv o0, .int x1, .long w2, .float 0, .int x4, u5, u6], [.int s0], h) (some (.int r.1), r.2) := by
  unfold j168_16 at hf
  refine sh_istore (i' := 5) (n := 2) i168_16 (Or.inl rfl) (xokst_of (Nat.le_of_ble_eq_true rfl) rfl) ?_
  refine ev_do i168_18 rfl ?_
  refine sh_istore (i' := 6) (n := 2) i168_19 (Or.inl rfl) (xokst_of (Nat.le_of_ble_eq_true rfl) rfl) ?_
  exact l168_21_ok hd xFuel hf
def fn168 (o0 : Option Nat) (x1 : Int32) (w2 : Int64) (x4 : Int32) (h : xH) : Option (Int32 × xH) := (xgI h o0 11 37).bind fun v_1 => (if v_1 < (x1 + x4) then j168_16 o0 x1 w2 x4 0 h else j168_16 o0 x1 w2 x4 1 h)
theorem fn168_call {xs : List Int32} {d : Nat} (hd : 3 ≤ d) {o0 : Option Nat} {x1 : Int32} {w2 : Int64} {x4 : Int32} {h : xH} {r : (Int32 × xH)} (hf : fn168 o0 x1 w2 x4 h = some r) : xCall (xTa xs) d 168 [xrv o0, .int x1, .long w2, .int x4] h (some (.int r.1), r.2) := by
  obtain ⟨d, rfl⟩ : ∃ d2, d = d2 + 1 := ⟨d - 1, by omega⟩
  replace hd : 2 ≤ d := by omega
  refine call_of2 (fl := [xrv o0, .int x1, .long w2, .float 0, .int x4]) (Ls := [xrv o0, .int x1, .long w2, .float 0, .int x4, .float 0, .float 0]) m168 (by simp [xfl, xrv_cat, xc_i, xc_j, xc_a, xc_f]) (Nat.le_of_ble_eq_true rfl) rfl ?_
  unfold fn168 at hf
  refine ev_do i168_0 rfl ?_
  refine ev_do i168_1 rfl ?_
  refine ev_do i168_3 rfl ?_
  refine sh_aload (i' := 0) (n := 1) i168_4 (Or.inr ⟨rfl, by decide⟩) rfl ?_
  obtain ⟨v_1, ev_1, hf⟩ := x_bind hf
  refine sh_getI i168_5 f168_224 ev_1 ?_
  refine ev_icmp (t := 15) i168_8 rfl (fun c_2 => ?_) (fun c_2 => ?_)
  · replace hf := x_pos (show v_1 < (x1 + x4) from c_2) hf
    refine ev_do i168_15 rfl ?_
    exact j168_16_ok hd rfl rfl hf
  · replace hf := x_neg (show ¬ v_1 < (x1 + x4) from c_2) hf
    refine ev_do i168_11 rfl ?_
    refine sh_goto (t := 16) i168_12 rfl ?_
    exact j168_16_ok hd rfl rfl hf
end
section
def j169_26  (o0 : Option Nat) (x1 : Int32) (x2 : Int32) (h : xH) : Option (Int32 × xH) := some (x2, h)
theorem j169_26_ok {xs : List Int32} {d : Nat} (hd : 2 ≤ d) {o0 : Option Nat} {x1 : Int32} {x2 : Int32} {h : xH} {r : (Int32 × xH)} (hf : j169_26 o0 x1 x2 h = some r) : xEv (xTa xs) d 169 (26, [xrv o0, .int x1, .int x2], [], h) (some (.int r.1), r.2) := by
  unfold j169_26 at hf
  refine ev_do i169_26 rfl ?_
  obtain rfl := Option.some.inj hf
  exact sh_iret i169_27 m169 rfl rfl
def l169_2  : Nat → Option Nat → Int32 → Int32 → xH → Option (Int32 × xH)
  | 0 => fun _ _ _ _ => none
  | n + 1 => fun o0 x1 x2 h => (xgI h o0 11 37).bind fun v_1 => (if v_1 ≤ x2 then j169_26 o0 x1 x2 h else (xcv h o0 11).bind fun _ => (fn167 o0 x2 h).bind fun r_3 => (if r_3.1 = 32 then l169_2 n o0 x1 (x2 + 1) r_3.2 else j169_26 o0 x1 x2 r_3.2))
theorem l169_2_ok {xs : List Int32} {d : Nat} (hd : 2 ≤ d) : ∀ (n : Nat) {o0 : Option Nat} {x1 : Int32} {x2 : Int32} {h : xH} {r : (Int32 × xH)}, l169_2 n o0 x1 x2 h = some r → xEv (xTa xs) d 169 (2, [xrv o0, .int x1, .int x2], [], h) (some (.int r.1), r.2) := by
  intro n
  induction n with
  | zero => intros; rename_i hf; cases hf
  | succ n ih =>
    intro o0 x1 x2 h r hf
    replace hf : ((xgI h o0 11 37).bind fun v_1 => (if v_1 ≤ x2 then j169_26 o0 x1 x2 h else (xcv h o0 11).bind fun _ => (fn167 o0 x2 h).bind fun r_3 => (if r_3.1 = 32 then l169_2 n o0 x1 (x2 + 1) r_3.2 else j169_26 o0 x1 x2 r_3.2))) = some r := hf
    refine ev_do i169_2 rfl ?_
    refine sh_aload (i' := 0) (n := 1) i169_3 (Or.inr ⟨rfl, by decide⟩) rfl ?_
    obtain ⟨v_1, ev_1, hf⟩ := x_bind hf
    refine sh_getI i169_4 f169_224 ev_1 ?_
    refine ev_icmp (t := 26) i169_7 rfl (fun c_2 => ?_) (fun c_2 => ?_)
    · replace hf := x_pos (show v_1 ≤ x2 from c_2) hf
      exact j169_26_ok hd hf
    · replace hf := x_neg (show ¬ v_1 ≤ x2 from c_2) hf
      refine sh_aload (i' := 0) (n := 1) i169_10 (Or.inr ⟨rfl, by decide⟩) rfl ?_
      refine ev_do i169_11 rfl ?_
      obtain ⟨_, eu_5, hf⟩ := x_bind hf
      obtain ⟨r_3, er_3, hf⟩ := x_bind hf
      refine sh_inv (as := [.int x2]) (z := (some (.int r_3.1), r_3.2)) i169_12 v169_227 (Or.inl ⟨by decide, rfl⟩) m167 rfl (Nat.le_of_ble_eq_true rfl) eu_5 (fn167_call (by omega) er_3) ?_
      refine ev_do i169_15 rfl ?_
      refine ev_icmp (t := 26) i169_17 rfl (fun c_4 => ?_) (fun c_4 => ?_)
      · replace hf := x_neg (show ¬ r_3.1 = 32 from c_4) hf
        exact j169_26_ok hd hf
      · replace hf := x_pos (show r_3.1 = 32 from Decidable.byContradiction (fun h9 => c_4 h9)) hf
        refine sh_inc (i' := 2) i169_20 rfl (xokst_of (Nat.le_of_ble_eq_true rfl) rfl) rfl ?_
        refine sh_goto (t := 2) i169_23 rfl ?_
        exact ih hf
def fn169 (o0 : Option Nat) (x1 : Int32) (h : xH) : Option (Int32 × xH) := l169_2 xFuel o0 x1 x1 h
theorem fn169_call {xs : List Int32} {d : Nat} (hd : 3 ≤ d) {o0 : Option Nat} {x1 : Int32} {h : xH} {r : (Int32 × xH)} (hf : fn169 o0 x1 h = some r) : xCall (xTa xs) d 169 [xrv o0, .int x1] h (some (.int r.1), r.2) := by
  obtain ⟨d, rfl⟩ : ∃ d2, d = d2 + 1 := ⟨d - 1, by omega⟩
  replace hd : 2 ≤ d := by omega
  refine call_of2 (fl := [xrv o0, .int x1]) (Ls := [xrv o0, .int x1, .float 0]) m169 (by simp [xfl, xrv_cat, xc_i, xc_j, xc_a, xc_f]) (Nat.le_of_ble_eq_true rfl) rfl ?_
  unfold fn169 at hf
  refine ev_do i169_0 rfl ?_
  refine sh_istore (i' := 2) (n := 1) i169_1 (Or.inr ⟨rfl, by decide⟩) (xokst_of (Nat.le_of_ble_eq_true rfl) rfl) ?_
  exact l169_2_ok hd xFuel hf
end
section
def j170_26  (o0 : Option Nat) (x1 : Int32) (x2 : Int32) (h : xH) : Option (Int32 × xH) := some (x2, h)
theorem j170_26_ok {xs : List Int32} {d : Nat} (hd : 2 ≤ d) {o0 : Option Nat} {x1 : Int32} {x2 : Int32} {h : xH} {r : (Int32 × xH)} (hf : j170_26 o0 x1 x2 h = some r) : xEv (xTa xs) d 170 (26, [xrv o0, .int x1, .int x2], [], h) (some (.int r.1), r.2) := by
  unfold j170_26 at hf
  refine ev_do i170_26 rfl ?_
  obtain rfl := Option.some.inj hf
  exact sh_iret i170_27 m170 rfl rfl
def l170_2  : Nat → Option Nat → Int32 → Int32 → xH → Option (Int32 × xH)
  | 0 => fun _ _ _ _ => none
  | n + 1 => fun o0 x1 x2 h => (xgI h o0 11 37).bind fun v_1 => (if v_1 ≤ x2 then j170_26 o0 x1 x2 h else (xcv h o0 11).bind fun _ => (fn167 o0 x2 h).bind fun r_3 => (if r_3.1 = 32 then j170_26 o0 x1 x2 r_3.2 else l170_2 n o0 x1 (x2 + 1) r_3.2))
theorem l170_2_ok {xs : List Int32} {d : Nat} (hd : 2 ≤ d) : ∀ (n : Nat) {o0 : Option Nat} {x1 : Int32} {x2 : Int32} {h : xH} {r : (Int32 × xH)}, l170_2 n o0 x1 x2 h = some r → xEv (xTa xs) d 170 (2, [xrv o0, .int x1, .int x2], [], h) (some (.int r.1), r.2) := by
  intro n
  induction n with
  | zero => intros; rename_i hf; cases hf
  | succ n ih =>
    intro o0 x1 x2 h r hf
    replace hf : ((xgI h o0 11 37).bind fun v_1 => (if v_1 ≤ x2 then j170_26 o0 x1 x2 h else (xcv h o0 11).bind fun _ => (fn167 o0 x2 h).bind fun r_3 => (if r_3.1 = 32 then j170_26 o0 x1 x2 r_3.2 else l170_2 n o0 x1 (x2 + 1) r_3.2))) = some r := hf
    refine ev_do i170_2 rfl ?_
    refine sh_aload (i' := 0) (n := 1) i170_3 (Or.inr ⟨rfl, by decide⟩) rfl ?_
    obtain ⟨v_1, ev_1, hf⟩ := x_bind hf
    refine sh_getI i170_4 f170_224 ev_1 ?_
    refine ev_icmp (t := 26) i170_7 rfl (fun c_2 => ?_) (fun c_2 => ?_)
    · replace hf := x_pos (show v_1 ≤ x2 from c_2) hf
      exact j170_26_ok hd hf
    · replace hf := x_neg (show ¬ v_1 ≤ x2 from c_2) hf
      refine sh_aload (i' := 0) (n := 1) i170_10 (Or.inr ⟨rfl, by decide⟩) rfl ?_
      refine ev_do i170_11 rfl ?_
      obtain ⟨_, eu_5, hf⟩ := x_bind hf
      obtain ⟨r_3, er_3, hf⟩ := x_bind hf
      refine sh_inv (as := [.int x2]) (z := (some (.int r_3.1), r_3.2)) i170_12 v170_227 (Or.inl ⟨by decide, rfl⟩) m167 rfl (Nat.le_of_ble_eq_true rfl) eu_5 (fn167_call (by omega) er_3) ?_
      refine ev_do i170_15 rfl ?_
      refine ev_icmp (t := 26) i170_17 rfl (fun c_4 => ?_) (fun c_4 => ?_)
      · replace hf := x_pos (show r_3.1 = 32 from c_4) hf
        exact j170_26_ok hd hf
      · replace hf := x_neg (show ¬ r_3.1 = 32 from c_4) hf
        refine sh_inc (i' := 2) i170_20 rfl (xokst_of (Nat.le_of_ble_eq_true rfl) rfl) rfl ?_
        refine sh_goto (t := 2) i170_23 rfl ?_
        exact ih hf
def fn170 (o0 : Option Nat) (x1 : Int32) (h : xH) : Option (Int32 × xH) := l170_2 xFuel o0 x1 x1 h
theorem fn170_call {xs : List Int32} {d : Nat} (hd : 3 ≤ d) {o0 : Option Nat} {x1 : Int32} {h : xH} {r : (Int32 × xH)} (hf : fn170 o0 x1 h = some r) : xCall (xTa xs) d 170 [xrv o0, .int x1] h (some (.int r.1), r.2) := by
  obtain ⟨d, rfl⟩ : ∃ d2, d = d2 + 1 := ⟨d - 1, by omega⟩
  replace hd : 2 ≤ d := by omega
  refine call_of2 (fl := [xrv o0, .int x1]) (Ls := [xrv o0, .int x1, .float 0]) m170 (by simp [xfl, xrv_cat, xc_i, xc_j, xc_a, xc_f]) (Nat.le_of_ble_eq_true rfl) rfl ?_
  unfold fn170 at hf
  refine ev_do i170_0 rfl ?_
  refine sh_istore (i' := 2) (n := 1) i170_1 (Or.inr ⟨rfl, by decide⟩) (xokst_of (Nat.le_of_ble_eq_true rfl) rfl) ?_
  exact l170_2_ok hd xFuel hf
end
section
def j171_336  (o0 : Option Nat) (x1 : Int32) (x2 : Int32) (s0 : Int32) (h : xH) : Option (Int32 × xH) := some (s0, h)
theorem j171_336_ok {xs : List Int32} {d : Nat} (hd : 5 ≤ d) {u3 : Value} {o0 : Option Nat} {x1 : Int32} {x2 : Int32} {s0 : Int32} {h : xH} {r : (Int32 × xH)} (hu3 : u3.category = 1) (hf : j171_336 o0 x1 x2 s0 h = some r) : xEv (xTa xs) d 171 (336, [xrv o0, .int x1, .int x2, u3], [.int s0], h) (some (.int r.1), r.2) := by
  unfold j171_336 at hf
  obtain rfl := Option.some.inj hf
  exact sh_iret i171_336 m171 rfl rfl
def j171_335  (o0 : Option Nat) (x1 : Int32) (x2 : Int32) (h : xH) : Option (Int32 × xH) := j171_336 o0 x1 x2 (-1) h
theorem j171_335_ok {xs : List Int32} {d : Nat} (hd : 5 ≤ d) {u3 : Value} {o0 : Option Nat} {x1 : Int32} {x2 : Int32} {h : xH} {r : (Int32 × xH)} (hu3 : u3.category = 1) (hf : j171_335 o0 x1 x2 h = some r) : xEv (xTa xs) d 171 (335, [xrv o0, .int x1, .int x2, u3], [], h) (some (.int r.1), r.2) := by
  unfold j171_335 at hf
  refine ev_do i171_335 rfl ?_
  exact j171_336_ok hd hu3 hf
def j171_306  (o0 : Option Nat) (x1 : Int32) (x2 : Int32) (h : xH) : Option (Int32 × xH) := (xpF h o0 11 39 .int (.int (x2 + 1))).bind fun h_1 => (xgI h_1 o0 11 37).bind fun v_2 => (if v_2 ≤ x2 then j171_335 o0 x1 x2 h_1 else (xcv h_1 o0 11).bind fun _ => (fn167 o0 x2 h_1).bind fun r_4 => (if r_4.1 = 125 then j171_336 o0 x1 x2 2 r_4.2 else j171_335 o0 x1 x2 r_4.2))
theorem j171_306_ok {xs : List Int32} {d : Nat} (hd : 5 ≤ d) {u3 : Value} {o0 : Option Nat} {x1 : Int32} {x2 : Int32} {h : xH} {r : (Int32 × xH)} (hu3 : u3.category = 1) (hf : j171_306 o0 x1 x2 h = some r) : xEv (xTa xs) d 171 (306, [xrv o0, .int x1, .int x2, u3], [], h) (some (.int r.1), r.2) := by
  unfold j171_306 at hf
  refine sh_aload (i' := 0) (n := 1) i171_306 (Or.inr ⟨rfl, by decide⟩) rfl ?_
  refine ev_do i171_307 rfl ?_
  refine ev_do i171_308 rfl ?_
  refine ev_do i171_309 rfl ?_
  obtain ⟨h_1, eh_1, hf⟩ := x_bind hf
  refine sh_put i171_310 f171_244 (by decide) rfl eh_1 ?_
  refine ev_do i171_313 rfl ?_
  refine sh_aload (i' := 0) (n := 1) i171_314 (Or.inr ⟨rfl, by decide⟩) rfl ?_
  obtain ⟨v_2, ev_2, hf⟩ := x_bind hf
  refine sh_getI i171_315 f171_224 ev_2 ?_
  refine ev_icmp (t := 335) i171_318 rfl (fun c_3 => ?_) (fun c_3 => ?_)
  · replace hf := x_pos (show v_2 ≤ x2 from c_3) hf
    exact j171_335_ok hd hu3 hf
  · replace hf := x_neg (show ¬ v_2 ≤ x2 from c_3) hf
    refine sh_aload (i' := 0) (n := 1) i171_321 (Or.inr ⟨rfl, by decide⟩) rfl ?_
    refine ev_do i171_322 rfl ?_
    obtain ⟨_, eu_6, hf⟩ := x_bind hf
    obtain ⟨r_4, er_4, hf⟩ := x_bind hf
    refine sh_inv (as := [.int x2]) (z := (some (.int r_4.1), r_4.2)) i171_323 v171_227 (Or.inl ⟨by decide, rfl⟩) m167 rfl (Nat.le_of_ble_eq_true rfl) eu_6 (fn167_call (by omega) er_4) ?_
    refine ev_do i171_326 rfl ?_
    refine ev_icmp (t := 335) i171_328 rfl (fun c_5 => ?_) (fun c_5 => ?_)
    · replace hf := x_neg (show ¬ r_4.1 = 125 from c_5) hf
      exact j171_335_ok hd hu3 hf
    · replace hf := x_pos (show r_4.1 = 125 from Decidable.byContradiction (fun h9 => c_5 h9)) hf
      refine ev_do i171_331 rfl ?_
      refine sh_goto (t := 336) i171_332 rfl ?_
      exact j171_336_ok hd hu3 hf
def j171_304  (o0 : Option Nat) (x1 : Int32) (x2 : Int32) (h : xH) : Option (Int32 × xH) := some ((-1), h)
theorem j171_304_ok {xs : List Int32} {d : Nat} (hd : 5 ≤ d) {u3 : Value} {o0 : Option Nat} {x1 : Int32} {x2 : Int32} {h : xH} {r : (Int32 × xH)} (hu3 : u3.category = 1) (hf : j171_304 o0 x1 x2 h = some r) : xEv (xTa xs) d 171 (304, [xrv o0, .int x1, .int x2, u3], [], h) (some (.int r.1), r.2) := by
  unfold j171_304 at hf
  refine ev_do i171_304 rfl ?_
  obtain rfl := Option.some.inj hf
  exact sh_iret i171_305 m171 rfl rfl
def j171_269  (o0 : Option Nat) (x1 : Int32) (x2 : Int32) (h : xH) : Option (Int32 × xH) := (xgI h o0 11 40).bind fun v_1 => (xpF h o0 11 41 .int (.int (x2 - v_1))).bind fun h_2 => (xgI h_2 o0 11 41).bind fun v_3 => (fn141 v_3 1 60 h_2).bind fun r_4 => (if r_4.1 = 0 then j171_304 o0 x1 x2 r_4.2 else (xcv r_4.2 o0 11).bind fun _ => (fn167 o0 (x2 - 1) r_4.2).bind fun r_6 => (if r_6.1 = 32 then j171_304 o0 x1 x2 r_6.2 else j171_306 o0 x1 x2 r_6.2))
theorem j171_269_ok {xs : List Int32} {d : Nat} (hd : 5 ≤ d) {u3 : Value} {o0 : Option Nat} {x1 : Int32} {x2 : Int32} {h : xH} {r : (Int32 × xH)} (hu3 : u3.category = 1) (hf : j171_269 o0 x1 x2 h = some r) : xEv (xTa xs) d 171 (269, [xrv o0, .int x1, .int x2, u3], [], h) (some (.int r.1), r.2) := by
  unfold j171_269 at hf
  refine sh_aload (i' := 0) (n := 1) i171_269 (Or.inr ⟨rfl, by decide⟩) rfl ?_
  refine ev_do i171_270 rfl ?_
  refine sh_aload (i' := 0) (n := 1) i171_271 (Or.inr ⟨rfl, by decide⟩) rfl ?_
  obtain ⟨v_1, ev_1, hf⟩ := x_bind hf
  refine sh_getI i171_272 f171_238 ev_1 ?_
  refine ev_do i171_275 rfl ?_
  obtain ⟨h_2, eh_2, hf⟩ := x_bind hf
  refine sh_put i171_276 f171_241 (by decide) rfl eh_2 ?_
  refine sh_aload (i' := 0) (n := 1) i171_279 (Or.inr ⟨rfl, by decide⟩) rfl ?_
  obtain ⟨v_3, ev_3, hf⟩ := x_bind hf
  refine sh_getI i171_280 f171_241 ev_3 ?_
  refine ev_do i171_283 rfl ?_
  refine ev_do i171_284 rfl ?_
  obtain ⟨r_4, er_4, hf⟩ := x_bind hf
  refine ev_sta (as := [.int 60, .int 1, .int v_3]) (z := (some (.int r_4.1), r_4.2)) i171_286 v171_154 (Or.inl rfl) m141 rfl (Nat.le_of_ble_eq_true rfl) (fn141_call (by omega) er_4) ?_
  refine ev_if (t := 304) i171_289 rfl (fun c_5 => ?_) (fun c_5 => ?_)
  · replace hf := x_pos (show r_4.1 = 0 from c_5) hf
    exact j171_304_ok hd hu3 hf
  · replace hf := x_neg (show ¬ r_4.1 = 0 from c_5) hf
    refine sh_aload (i' := 0) (n := 1) i171_292 (Or.inr ⟨rfl, by decide⟩) rfl ?_
    refine ev_do i171_293 rfl ?_
    refine ev_do i171_294 rfl ?_
    refine ev_do i171_295 rfl ?_
    obtain ⟨_, eu_8, hf⟩ := x_bind hf
    obtain ⟨r_6, er_6, hf⟩ := x_bind hf
    refine sh_inv (as := [.int (x2 - 1)]) (z := (some (.int r_6.1), r_6.2)) i171_296 v171_227 (Or.inl ⟨by decide, rfl⟩) m167 rfl (Nat.le_of_ble_eq_true rfl) eu_8 (fn167_call (by omega) er_6) ?_
    refine ev_do i171_299 rfl ?_
    refine ev_icmp (t := 306) i171_301 rfl (fun c_7 => ?_) (fun c_7 => ?_)
    · replace hf := x_neg (show ¬ r_6.1 = 32 from c_7) hf
      exact j171_306_ok hd hu3 hf
    · replace hf := x_pos (show r_6.1 = 32 from Decidable.byContradiction (fun h9 => c_7 h9)) hf
      exact j171_304_ok hd hu3 hf
def l171_235  : Nat → Option Nat → Int32 → Int32 → xH → Option (Int32 × xH)
  | 0 => fun _ _ _ _ => none
  | n + 1 => fun o0 x1 x2 h => (xgI h o0 11 37).bind fun v_1 => (if v_1 ≤ x2 then j171_269 o0 x1 x2 h else (xcv h o0 11).bind fun _ => (fn167 o0 x2 h).bind fun r_3 => (if r_3.1 = 123 then j171_269 o0 x1 x2 r_3.2 else (xcv r_3.2 o0 11).bind fun _ => (fn167 o0 x2 r_3.2).bind fun r_5 => (if r_5.1 = 125 then j171_269 o0 x1 x2 r_5.2 else l171_235 n o0 x1 (x2 + 1) r_5.2)))
theorem l171_235_ok {xs : List Int32} {d : Nat} (hd : 5 ≤ d) : ∀ (n : Nat) {u3 : Value} {o0 : Option Nat} {x1 : Int32} {x2 : Int32} {h : xH} {r : (Int32 × xH)} (hu3 : u3.category = 1), l171_235 n o0 x1 x2 h = some r → xEv (xTa xs) d 171 (235, [xrv o0, .int x1, .int x2, u3], [], h) (some (.int r.1), r.2) := by
  intro n
  induction n with
  | zero => intros; rename_i hf; cases hf
  | succ n ih =>
    intro u3 o0 x1 x2 h r hu3 hf
    replace hf : ((xgI h o0 11 37).bind fun v_1 => (if v_1 ≤ x2 then j171_269 o0 x1 x2 h else (xcv h o0 11).bind fun _ => (fn167 o0 x2 h).bind fun r_3 => (if r_3.1 = 123 then j171_269 o0 x1 x2 r_3.2 else (xcv r_3.2 o0 11).bind fun _ => (fn167 o0 x2 r_3.2).bind fun r_5 => (if r_5.1 = 125 then j171_269 o0 x1 x2 r_5.2 else l171_235 n o0 x1 (x2 + 1) r_5.2)))) = some r := hf
    refine ev_do i171_235 rfl ?_
    refine sh_aload (i' := 0) (n := 1) i171_236 (Or.inr ⟨rfl, by decide⟩) rfl ?_
    obtain ⟨v_1, ev_1, hf⟩ := x_bind hf
    refine sh_getI i171_237 f171_224 ev_1 ?_
    refine ev_icmp (t := 269) i171_240 rfl (fun c_2 => ?_) (fun c_2 => ?_)
    · replace hf := x_pos (show v_1 ≤ x2 from c_2) hf
      exact j171_269_ok hd hu3 hf
    · replace hf := x_neg (show ¬ v_1 ≤ x2 from c_2) hf
      refine sh_aload (i' := 0) (n := 1) i171_243 (Or.inr ⟨rfl, by decide⟩) rfl ?_
      refine ev_do i171_244 rfl ?_
      obtain ⟨_, eu_8, hf⟩ := x_bind hf
      obtain ⟨r_3, er_3, hf⟩ := x_bind hf
      refine sh_inv (as := [.int x2]) (z := (some (.int r_3.1), r_3.2)) i171_245 v171_227 (Or.inl ⟨by decide, rfl⟩) m167 rfl (Nat.le_of_ble_eq_true rfl) eu_8 (fn167_call (by omega) er_3) ?_
      refine ev_do i171_248 rfl ?_
      refine ev_icmp (t := 269) i171_250 rfl (fun c_4 => ?_) (fun c_4 => ?_)
      · replace hf := x_pos (show r_3.1 = 123 from c_4) hf
        exact j171_269_ok hd hu3 hf
      · replace hf := x_neg (show ¬ r_3.1 = 123 from c_4) hf
        refine sh_aload (i' := 0) (n := 1) i171_253 (Or.inr ⟨rfl, by decide⟩) rfl ?_
        refine ev_do i171_254 rfl ?_
        obtain ⟨_, eu_7, hf⟩ := x_bind hf
        obtain ⟨r_5, er_5, hf⟩ := x_bind hf
        refine sh_inv (as := [.int x2]) (z := (some (.int r_5.1), r_5.2)) i171_255 v171_227 (Or.inl ⟨by decide, rfl⟩) m167 rfl (Nat.le_of_ble_eq_true rfl) eu_7 (fn167_call (by omega) er_5) ?_
        refine ev_do i171_258 rfl ?_
        refine ev_icmp (t := 269) i171_260 rfl (fun c_6 => ?_) (fun c_6 => ?_)
        · replace hf := x_pos (show r_5.1 = 125 from c_6) hf
          exact j171_269_ok hd hu3 hf
        · replace hf := x_neg (show ¬ r_5.1 = 125 from c_6) hf
          refine sh_inc (i' := 2) i171_263 rfl (xokst_of (Nat.le_of_ble_eq_true rfl) rfl) rfl ?_
          refine sh_goto (t := 235) i171_266 rfl ?_
          exact ih hu3 hf
def j171_193  (o0 : Option Nat) (x1 : Int32) (x2 : Int32) (h : xH) : Option (Int32 × xH) := some ((-1), h)
theorem j171_193_ok {xs : List Int32} {d : Nat} (hd : 5 ≤ d) {u3 : Value} {o0 : Option Nat} {x1 : Int32} {x2 : Int32} {h : xH} {r : (Int32 × xH)} (hu3 : u3.category = 1) (hf : j171_193 o0 x1 x2 h = some r) : xEv (xTa xs) d 171 (193, [xrv o0, .int x1, .int x2, u3], [], h) (some (.int r.1), r.2) := by
  unfold j171_193 at hf
  refine ev_do i171_193 rfl ?_
  obtain rfl := Option.some.inj hf
  exact sh_iret i171_194 m171 rfl rfl
def j171_117  (o0 : Option Nat) (x1 : Int32) (x2 : Int32) (x3 : Int32) (s0 : Int32) (h : xH) : Option (Int32 × xH) := some (s0, h)
theorem j171_117_ok {xs : List Int32} {d : Nat} (hd : 5 ≤ d) {o0 : Option Nat} {x1 : Int32} {x2 : Int32} {x3 : Int32} {s0 : Int32} {h : xH} {r : (Int32 × xH)} (hf : j171_117 o0 x1 x2 x3 s0 h = some r) : xEv (xTa xs) d 171 (117, [xrv o0, .int x1, .int x2, .int x3], [.int s0], h) (some (.int r.1), r.2) := by
  unfold j171_117 at hf
  obtain rfl := Option.some.inj hf
  exact sh_iret i171_117 m171 rfl rfl
def j171_116  (o0 : Option Nat) (x1 : Int32) (x2 : Int32) (x3 : Int32) (h : xH) : Option (Int32 × xH) := j171_117 o0 x1 x2 x3 (-1) h
theorem j171_116_ok {xs : List Int32} {d : Nat} (hd : 5 ≤ d) {o0 : Option Nat} {x1 : Int32} {x2 : Int32} {x3 : Int32} {h : xH} {r : (Int32 × xH)} (hf : j171_116 o0 x1 x2 x3 h = some r) : xEv (xTa xs) d 171 (116, [xrv o0, .int x1, .int x2, .int x3], [], h) (some (.int r.1), r.2) := by
  unfold j171_116 at hf
  refine ev_do i171_116 rfl ?_
  exact j171_117_ok hd hf
def j171_70  (o0 : Option Nat) (x1 : Int32) (x2 : Int32) (x3 : Int32) (h : xH) : Option (Int32 × xH) := (xpF h o0 11 40 .int (.int (x1 + 6))).bind fun h_1 => (xgI h_1 o0 11 40).bind fun v_2 => (xpF h_1 o0 11 41 .int (.int ((x3 - 1) - v_2))).bind fun h_3 => (xpF h_3 o0 11 39 .int (.int x3)).bind fun h_4 => (if x2 = 0 then (xgI h_4 o0 11 41).bind fun v_6 => (fn141 v_6 1 60 h_4).bind fun r_7 => (if r_7.1 = 0 then j171_116 o0 x1 x2 x3 r_7.2 else j171_117 o0 x1 x2 x3 1 r_7.2) else j171_116 o0 x1 x2 x3 h_4)
theorem j171_70_ok {xs : List Int32} {d : Nat} (hd : 5 ≤ d) {o0 : Option Nat} {x1 : Int32} {x2 : Int32} {x3 : Int32} {h : xH} {r : (Int32 × xH)} (hf : j171_70 o0 x1 x2 x3 h = some r) : xEv (xTa xs) d 171 (70, [xrv o0, .int x1, .int x2, .int x3], [], h) (some (.int r.1), r.2) := by
  unfold j171_70 at hf
  refine sh_aload (i' := 0) (n := 1) i171_70 (Or.inr ⟨rfl, by decide⟩) rfl ?_
  refine ev_do i171_71 rfl ?_
  refine ev_do i171_72 rfl ?_
  refine ev_do i171_74 rfl ?_
  obtain ⟨h_1, eh_1, hf⟩ := x_bind hf
  refine sh_put i171_75 f171_238 (by decide) rfl eh_1 ?_
  refine sh_aload (i' := 0) (n := 1) i171_78 (Or.inr ⟨rfl, by decide⟩) rfl ?_
  refine ev_do i171_79 rfl ?_
  refine ev_do i171_80 rfl ?_
  refine ev_do i171_81 rfl ?_
  refine sh_aload (i' := 0) (n := 1) i171_82 (Or.inr ⟨rfl, by decide⟩) rfl ?_
  obtain ⟨v_2, ev_2, hf⟩ := x_bind hf
  refine sh_getI i171_83 f171_238 ev_2 ?_
  refine ev_do i171_86 rfl ?_
  obtain ⟨h_3, eh_3, hf⟩ := x_bind hf
  refine sh_put i171_87 f171_241 (by decide) rfl eh_3 ?_
  refine sh_aload (i' := 0) (n := 1) i171_90 (Or.inr ⟨rfl, by decide⟩) rfl ?_
  refine ev_do i171_91 rfl ?_
  obtain ⟨h_4, eh_4, hf⟩ := x_bind hf
  refine sh_put i171_92 f171_244 (by decide) rfl eh_4 ?_
  refine ev_do i171_95 rfl ?_
  refine ev_if (t := 116) i171_96 rfl (fun c_5 => ?_) (fun c_5 => ?_)
  · replace hf := x_neg (show ¬ x2 = 0 from c_5) hf
    exact j171_116_ok hd hf
  · replace hf := x_pos (show x2 = 0 from Decidable.byContradiction (fun h9 => c_5 h9)) hf
    refine sh_aload (i' := 0) (n := 1) i171_99 (Or.inr ⟨rfl, by decide⟩) rfl ?_
    obtain ⟨v_6, ev_6, hf⟩ := x_bind hf
    refine sh_getI i171_100 f171_241 ev_6 ?_
    refine ev_do i171_103 rfl ?_
    refine ev_do i171_104 rfl ?_
    obtain ⟨r_7, er_7, hf⟩ := x_bind hf
    refine ev_sta (as := [.int 60, .int 1, .int v_6]) (z := (some (.int r_7.1), r_7.2)) i171_106 v171_154 (Or.inl rfl) m141 rfl (Nat.le_of_ble_eq_true rfl) (fn141_call (by omega) er_7) ?_
    refine ev_if (t := 116) i171_109 rfl (fun c_8 => ?_) (fun c_8 => ?_)
    · replace hf := x_pos (show r_7.1 = 0 from c_8) hf
      exact j171_116_ok hd hf
    · replace hf := x_neg (show ¬ r_7.1 = 0 from c_8) hf
      refine ev_do i171_112 rfl ?_
      refine sh_goto (t := 117) i171_113 rfl ?_
      exact j171_117_ok hd hf
def j171_62 (k20 : Option Nat → Int32 → Int32 → Int32 → xH → Option (Int32 × xH)) (o0 : Option Nat) (x1 : Int32) (x2 : Int32) (x3 : Int32) (s0 : Int32) (s1 : Int32) (h : xH) : Option (Int32 × xH) := k20 o0 x1 (s0 + s1) (x3 + 1) h
theorem j171_62_ok {xs : List Int32} {d : Nat} (hd : 5 ≤ d) {k20 : Option Nat → Int32 → Int32 → Int32 → xH → Option (Int32 × xH)} (hk20 : ∀ {o0 : Option Nat} {x1 : Int32} {x2 : Int32} {x3 : Int32} {h : xH} {r : (Int32 × xH)}, k20 o0 x1 x2 x3 h = some r → xEv (xTa xs) d 171 (20, [xrv o0, .int x1, .int x2, .int x3], [], h) (some (.int r.1), r.2)) {o0 : Option Nat} {x1 : Int32} {x2 : Int32} {x3 : Int32} {s0 : Int32} {s1 : Int32} {h : xH} {r : (Int32 × xH)} (hf : j171_62 k20 o0 x1 x2 x3 s0 s1 h = some r) : xEv (xTa xs) d 171 (62, [xrv o0, .int x1, .int x2, .int x3], [.int s1, .int s0], h) (some (.int r.1), r.2) := by
  unfold j171_62 at hf
  refine ev_do i171_62 rfl ?_
  refine sh_istore (i' := 2) (n := 1) i171_63 (Or.inr ⟨rfl, by decide⟩) (xokst_of (Nat.le_of_ble_eq_true rfl) rfl) ?_
  refine sh_inc (i' := 3) i171_64 rfl (xokst_of (Nat.le_of_ble_eq_true rfl) rfl) rfl ?_
  refine sh_goto (t := 20) i171_67 rfl ?_
  exact hk20 hf
def l171_20  : Nat → Option Nat → Int32 → Int32 → Int32 → xH → Option (Int32 × xH)
  | 0 => fun _ _ _ _ _ => none
  | n + 1 => fun o0 x1 x2 x3 h => (xgI h o0 11 37).bind fun v_1 => (if v_1 ≤ x3 then j171_70 o0 x1 x2 x3 h else (if x2 ≤ 0 then j171_70 o0 x1 x2 x3 h else (xcv h o0 11).bind fun _ => (fn167 o0 x3 h).bind fun r_4 => (if r_4.1 = 123 then j171_62 (l171_20 n) o0 x1 x2 x3 x2 1 r_4.2 else (xcv r_4.2 o0 11).bind fun _ => (fn167 o0 x3 r_4.2).bind fun r_6 => (if r_6.1 = 125 then j171_62 (l171_20 n) o0 x1 x2 x3 x2 (-1) r_6.2 else j171_62 (l171_20 n) o0 x1 x2 x3 x2 0 r_6.2))))
theorem l171_20_ok {xs : List Int32} {d : Nat} (hd : 5 ≤ d) : ∀ (n : Nat) {o0 : Option Nat} {x1 : Int32} {x2 : Int32} {x3 : Int32} {h : xH} {r : (Int32 × xH)}, l171_20 n o0 x1 x2 x3 h = some r → xEv (xTa xs) d 171 (20, [xrv o0, .int x1, .int x2, .int x3], [], h) (some (.int r.1), r.2) := by
  intro n
  induction n with
  | zero => intros; rename_i hf; cases hf
  | succ n ih =>
    intro o0 x1 x2 x3 h r hf
    replace hf : ((xgI h o0 11 37).bind fun v_1 => (if v_1 ≤ x3 then j171_70 o0 x1 x2 x3 h else (if x2 ≤ 0 then j171_70 o0 x1 x2 x3 h else (xcv h o0 11).bind fun _ => (fn167 o0 x3 h).bind fun r_4 => (if r_4.1 = 123 then j171_62 (l171_20 n) o0 x1 x2 x3 x2 1 r_4.2 else (xcv r_4.2 o0 11).bind fun _ => (fn167 o0 x3 r_4.2).bind fun r_6 => (if r_6.1 = 125 then j171_62 (l171_20 n) o0 x1 x2 x3 x2 (-1) r_6.2 else j171_62 (l171_20 n) o0 x1 x2 x3 x2 0 r_6.2))))) = some r := hf
    refine ev_do i171_20 rfl ?_
    refine sh_aload (i' := 0) (n := 1) i171_21 (Or.inr ⟨rfl, by decide⟩) rfl ?_
    obtain ⟨v_1, ev_1, hf⟩ := x_bind hf
    refine sh_getI i171_22 f171_224 ev_1 ?_
    refine ev_icmp (t := 70) i171_25 rfl (fun c_2 => ?_) (fun c_2 => ?_)
    · replace hf := x_pos (show v_1 ≤ x3 from c_2) hf
      exact j171_70_ok hd hf
    · replace hf := x_neg (show ¬ v_1 ≤ x3 from c_2) hf
      refine ev_do i171_28 rfl ?_
      refine ev_if (t := 70) i171_29 rfl (fun c_3 => ?_) (fun c_3 => ?_)
      · replace hf := x_pos (show x2 ≤ 0 from c_3) hf
        exact j171_70_ok hd hf
      · replace hf := x_neg (show ¬ x2 ≤ 0 from c_3) hf
        refine ev_do i171_32 rfl ?_
        refine sh_aload (i' := 0) (n := 1) i171_33 (Or.inr ⟨rfl, by decide⟩) rfl ?_
        refine ev_do i171_34 rfl ?_
        obtain ⟨_, eu_9, hf⟩ := x_bind hf
        obtain ⟨r_4, er_4, hf⟩ := x_bind hf
        refine sh_inv (as := [.int x3]) (z := (some (.int r_4.1), r_4.2)) i171_35 v171_227 (Or.inl ⟨by decide, rfl⟩) m167 rfl (Nat.le_of_ble_eq_true rfl) eu_9 (fn167_call (by omega) er_4) ?_
        refine ev_do i171_38 rfl ?_
        refine ev_icmp (t := 47) i171_40 rfl (fun c_5 => ?_) (fun c_5 => ?_)
        · replace hf := x_neg (show ¬ r_4.1 = 123 from c_5) hf
          refine sh_aload (i' := 0) (n := 1) i171_47 (Or.inr ⟨rfl, by decide⟩) rfl ?_
          refine ev_do i171_48 rfl ?_
          obtain ⟨_, eu_8, hf⟩ := x_bind hf
          obtain ⟨r_6, er_6, hf⟩ := x_bind hf
          refine sh_inv (as := [.int x3]) (z := (some (.int r_6.1), r_6.2)) i171_49 v171_227 (Or.inl ⟨by decide, rfl⟩) m167 rfl (Nat.le_of_ble_eq_true rfl) eu_8 (fn167_call (by omega) er_6) ?_
          refine ev_do i171_52 rfl ?_
          refine ev_icmp (t := 61) i171_54 rfl (fun c_7 => ?_) (fun c_7 => ?_)
          · replace hf := x_neg (show ¬ r_6.1 = 125 from c_7) hf
            refine ev_do i171_61 rfl ?_
            exact j171_62_ok hd ih hf
          · replace hf := x_pos (show r_6.1 = 125 from Decidable.byContradiction (fun h9 => c_7 h9)) hf
            refine ev_do i171_57 rfl ?_
            refine sh_goto (t := 62) i171_58 rfl ?_
            exact j171_62_ok hd ih hf
        · replace hf := x_pos (show r_4.1 = 123 from Decidable.byContradiction (fun h9 => c_5 h9)) hf
          refine ev_do i171_43 rfl ?_
          refine sh_goto (t := 62) i171_44 rfl ?_
          exact j171_62_ok hd ih hf
def fn171 (o0 : Option Nat) (x1 : Int32) (h : xH) : Option (Int32 × xH) := (xcv h o0 11).bind fun _ => (fn168 o0 x1 135667000829216 6 h).bind fun r_1 => (if r_1.1 = 0 then (xcv r_1.2 o0 11).bind fun _ => (fn168 o0 x1 135705555528480 6 r_1.2).bind fun r_3 => (if r_3.1 = 0 then some ((-1), r_3.2) else (xpF r_3.2 o0 11 42 .int (.int (x1 + 6))).bind fun h_5 => (xgR h_5 o0 11 12).bind fun a_6 => (xgI h_5 o0 11 42).bind fun v_7 => (xgI h_5 o0 11 37).bind fun v_8 => (fn163 a_6 (24000 + v_7) (24000 + v_8) h_5).bind fun r_9 => (xpF r_9.2 o0 11 43 .int (.int r_9.1)).bind fun h_10 => (xgI h_10 o0 11 42).bind fun v_11 => (xgI h_10 o0 11 43).bind fun v_12 => (xgI h_10 o0 11 43).bind fun v_13 => (if v_13 = 0 then j171_193 o0 x1 (v_11 + v_12) h_10 else (xgI h_10 o0 11 37).bind fun v_15 => (if (v_11 + v_12) = v_15 then j171_193 o0 x1 (v_11 + v_12) h_10 else (xgI h_10 o0 11 42).bind fun v_17 => (xpF h_10 o0 11 40 .int (.int v_17)).bind fun h_18 => (xgI h_18 o0 11 43).bind fun v_19 => (xpF h_18 o0 11 41 .int (.int v_19)).bind fun h_20 => (xcv h_20 o0 11).bind fun _ => (fn167 o0 (v_11 + v_12) h_20).bind fun r_21 => (if r_21.1 = 32 then (xcv r_21.2 o0 11).bind fun _ => (fn169 o0 (v_11 + v_12) r_21.2).bind fun r_23 => (xpF r_23.2 o0 11 40 .int (.int r_23.1)).bind fun h_24 => (xgI h_24 o0 11 40).bind fun v_25 => l171_235 xFuel o0 x1 v_25 h_24 else j171_306 o0 x1 (v_11 + v_12) r_21.2)))) else l171_20 xFuel o0 x1 1 (x1 + 6) r_1.2)
theorem fn171_call {xs : List Int32} {d : Nat} (hd : 6 ≤ d) {o0 : Option Nat} {x1 : Int32} {h : xH} {r : (Int32 × xH)} (hf : fn171 o0 x1 h = some r) : xCall (xTa xs) d 171 [xrv o0, .int x1] h (some (.int r.1), r.2) := by
  obtain ⟨d, rfl⟩ : ∃ d2, d = d2 + 1 := ⟨d - 1, by omega⟩
  replace hd : 5 ≤ d := by omega
  refine call_of2 (fl := [xrv o0, .int x1]) (Ls := [xrv o0, .int x1, .float 0, .float 0]) m171 (by simp [xfl, xrv_cat, xc_i, xc_j, xc_a, xc_f]) (Nat.le_of_ble_eq_true rfl) rfl ?_
  unfold fn171 at hf
  refine sh_aload (i' := 0) (n := 1) i171_0 (Or.inr ⟨rfl, by decide⟩) rfl ?_
  refine ev_do i171_1 rfl ?_
  refine ev_do i171_2 (show xpush? 3 ((xtJ (xTa xs) 171 232).map .long) 2 _ _ _ = _ from by rw [w171_232]; rfl) ?_
  refine ev_do i171_5 rfl ?_
  obtain ⟨_, eu_29, hf⟩ := x_bind hf
  obtain ⟨r_1, er_1, hf⟩ := x_bind hf
  refine sh_inv (as := [.int 6, .long 135667000829216, .int x1]) (z := (some (.int r_1.1), r_1.2)) i171_7 v171_234 (Or.inl ⟨by decide, rfl⟩) m168 rfl (Nat.le_of_ble_eq_true rfl) eu_29 (fn168_call (by omega) er_1) ?_
  refine ev_if (t := 118) i171_10 rfl (fun c_2 => ?_) (fun c_2 => ?_)
  · replace hf := x_pos (show r_1.1 = 0 from c_2) hf
    refine sh_aload (i' := 0) (n := 1) i171_118 (Or.inr ⟨rfl, by decide⟩) rfl ?_
    refine ev_do i171_119 rfl ?_
    refine ev_do i171_120 (show xpush? 3 ((xtJ (xTa xs) 171 247).map .long) 120 _ _ _ = _ from by rw [w171_247]; rfl) ?_
    refine ev_do i171_123 rfl ?_
    obtain ⟨_, eu_28, hf⟩ := x_bind hf
    obtain ⟨r_3, er_3, hf⟩ := x_bind hf
    refine sh_inv (as := [.int 6, .long 135705555528480, .int x1]) (z := (some (.int r_3.1), r_3.2)) i171_125 v171_234 (Or.inl ⟨by decide, rfl⟩) m168 rfl (Nat.le_of_ble_eq_true rfl) eu_28 (fn168_call (by omega) er_3) ?_
    refine ev_if (t := 133) i171_128 rfl (fun c_4 => ?_) (fun c_4 => ?_)
    · replace hf := x_neg (show ¬ r_3.1 = 0 from c_4) hf
      refine sh_aload (i' := 0) (n := 1) i171_133 (Or.inr ⟨rfl, by decide⟩) rfl ?_
      refine ev_do i171_134 rfl ?_
      refine ev_do i171_135 rfl ?_
      refine ev_do i171_137 rfl ?_
      obtain ⟨h_5, eh_5, hf⟩ := x_bind hf
      refine sh_put i171_138 f171_249 (by decide) rfl eh_5 ?_
      refine sh_aload (i' := 0) (n := 1) i171_141 (Or.inr ⟨rfl, by decide⟩) rfl ?_
      refine sh_aload (i' := 0) (n := 1) i171_142 (Or.inr ⟨rfl, by decide⟩) rfl ?_
      obtain ⟨a_6, ea_6, hf⟩ := x_bind hf
      refine sh_getR i171_143 f171_41 ea_6 ?_
      refine ev_do i171_146 rfl ?_
      refine sh_aload (i' := 0) (n := 1) i171_149 (Or.inr ⟨rfl, by decide⟩) rfl ?_
      obtain ⟨v_7, ev_7, hf⟩ := x_bind hf
      refine sh_getI i171_150 f171_249 ev_7 ?_
      refine ev_do i171_153 rfl ?_
      refine ev_do i171_154 rfl ?_
      refine sh_aload (i' := 0) (n := 1) i171_157 (Or.inr ⟨rfl, by decide⟩) rfl ?_
      obtain ⟨v_8, ev_8, hf⟩ := x_bind hf
      refine sh_getI i171_158 f171_224 ev_8 ?_
      refine ev_do i171_161 rfl ?_
      obtain ⟨r_9, er_9, hf⟩ := x_bind hf
      refine ev_sta (as := [.int (24000 + v_8), .int (24000 + v_7), xrv a_6]) (z := (some (.int r_9.1), r_9.2)) i171_162 v171_212 (Or.inl rfl) m163 rfl (by simp [xcat, xrv_cat, xc_i, xc_j, xc_a, xc_f]) (fn163_call (by omega) er_9) ?_
      obtain ⟨h_10, eh_10, hf⟩ := x_bind hf
      refine sh_put i171_165 f171_252 (by decide) rfl eh_10 ?_
      refine sh_aload (i' := 0) (n := 1) i171_168 (Or.inr ⟨rfl, by decide⟩) rfl ?_
      obtain ⟨v_11, ev_11, hf⟩ := x_bind hf
      refine sh_getI i171_169 f171_249 ev_11 ?_
      refine sh_aload (i' := 0) (n := 1) i171_172 (Or.inr ⟨rfl, by decide⟩) rfl ?_
      obtain ⟨v_12, ev_12, hf⟩ := x_bind hf
      refine sh_getI i171_173 f171_252 ev_12 ?_
      refine ev_do i171_176 rfl ?_
      refine sh_istore (i' := 2) (n := 1) i171_177 (Or.inr ⟨rfl, by decide⟩) (xokst_of (Nat.le_of_ble_eq_true rfl) rfl) ?_
      refine sh_aload (i' := 0) (n := 1) i171_178 (Or.inr ⟨rfl, by decide⟩) rfl ?_
      obtain ⟨v_13, ev_13, hf⟩ := x_bind hf
      refine sh_getI i171_179 f171_252 ev_13 ?_
      refine ev_if (t := 193) i171_182 rfl (fun c_14 => ?_) (fun c_14 => ?_)
      · replace hf := x_pos (show v_13 = 0 from c_14) hf
        exact j171_193_ok hd rfl hf
      · replace hf := x_neg (show ¬ v_13 = 0 from c_14) hf
        refine ev_do i171_185 rfl ?_
        refine sh_aload (i' := 0) (n := 1) i171_186 (Or.inr ⟨rfl, by decide⟩) rfl ?_
        obtain ⟨v_15, ev_15, hf⟩ := x_bind hf
        refine sh_getI i171_187 f171_224 ev_15 ?_
        refine ev_icmp (t := 195) i171_190 rfl (fun c_16 => ?_) (fun c_16 => ?_)
        · replace hf := x_neg (show ¬ (v_11 + v_12) = v_15 from c_16) hf
          refine sh_aload (i' := 0) (n := 1) i171_195 (Or.inr ⟨rfl, by decide⟩) rfl ?_
          refine sh_aload (i' := 0) (n := 1) i171_196 (Or.inr ⟨rfl, by decide⟩) rfl ?_
          obtain ⟨v_17, ev_17, hf⟩ := x_bind hf
          refine sh_getI i171_197 f171_249 ev_17 ?_
          obtain ⟨h_18, eh_18, hf⟩ := x_bind hf
          refine sh_put i171_200 f171_238 (by decide) rfl eh_18 ?_
          refine sh_aload (i' := 0) (n := 1) i171_203 (Or.inr ⟨rfl, by decide⟩) rfl ?_
          refine sh_aload (i' := 0) (n := 1) i171_204 (Or.inr ⟨rfl, by decide⟩) rfl ?_
          obtain ⟨v_19, ev_19, hf⟩ := x_bind hf
          refine sh_getI i171_205 f171_252 ev_19 ?_
          obtain ⟨h_20, eh_20, hf⟩ := x_bind hf
          refine sh_put i171_208 f171_241 (by decide) rfl eh_20 ?_
          refine sh_aload (i' := 0) (n := 1) i171_211 (Or.inr ⟨rfl, by decide⟩) rfl ?_
          refine ev_do i171_212 rfl ?_
          obtain ⟨_, eu_27, hf⟩ := x_bind hf
          obtain ⟨r_21, er_21, hf⟩ := x_bind hf
          refine sh_inv (as := [.int (v_11 + v_12)]) (z := (some (.int r_21.1), r_21.2)) i171_213 v171_227 (Or.inl ⟨by decide, rfl⟩) m167 rfl (Nat.le_of_ble_eq_true rfl) eu_27 (fn167_call (by omega) er_21) ?_
          refine ev_do i171_216 rfl ?_
          refine ev_icmp (t := 306) i171_218 rfl (fun c_22 => ?_) (fun c_22 => ?_)
          · replace hf := x_neg (show ¬ r_21.1 = 32 from c_22) hf
            exact j171_306_ok hd rfl hf
          · replace hf := x_pos (show r_21.1 = 32 from Decidable.byContradiction (fun h9 => c_22 h9)) hf
            refine sh_aload (i' := 0) (n := 1) i171_221 (Or.inr ⟨rfl, by decide⟩) rfl ?_
            refine sh_aload (i' := 0) (n := 1) i171_222 (Or.inr ⟨rfl, by decide⟩) rfl ?_
            refine ev_do i171_223 rfl ?_
            obtain ⟨_, eu_26, hf⟩ := x_bind hf
            obtain ⟨r_23, er_23, hf⟩ := x_bind hf
            refine sh_inv (as := [.int (v_11 + v_12)]) (z := (some (.int r_23.1), r_23.2)) i171_224 v171_255 (Or.inl ⟨by decide, rfl⟩) m169 rfl (by simp [xcat, xrv_cat, xc_i, xc_j, xc_a, xc_f]) eu_26 (fn169_call (by omega) er_23) ?_
            obtain ⟨h_24, eh_24, hf⟩ := x_bind hf
            refine sh_put i171_227 f171_238 (by decide) rfl eh_24 ?_
            refine sh_aload (i' := 0) (n := 1) i171_230 (Or.inr ⟨rfl, by decide⟩) rfl ?_
            obtain ⟨v_25, ev_25, hf⟩ := x_bind hf
            refine sh_getI i171_231 f171_238 ev_25 ?_
            refine sh_istore (i' := 2) (n := 1) i171_234 (Or.inr ⟨rfl, by decide⟩) (xokst_of (Nat.le_of_ble_eq_true rfl) rfl) ?_
            exact l171_235_ok hd xFuel rfl hf
        · replace hf := x_pos (show (v_11 + v_12) = v_15 from Decidable.byContradiction (fun h9 => c_16 h9)) hf
          exact j171_193_ok hd rfl hf
    · replace hf := x_pos (show r_3.1 = 0 from Decidable.byContradiction (fun h9 => c_4 h9)) hf
      refine ev_do i171_131 rfl ?_
      obtain rfl := Option.some.inj hf
      exact sh_iret i171_132 m171 rfl rfl
  · replace hf := x_neg (show ¬ r_1.1 = 0 from c_2) hf
    refine ev_do i171_13 rfl ?_
    refine sh_istore (i' := 2) (n := 1) i171_14 (Or.inr ⟨rfl, by decide⟩) (xokst_of (Nat.le_of_ble_eq_true rfl) rfl) ?_
    refine ev_do i171_15 rfl ?_
    refine ev_do i171_16 rfl ?_
    refine ev_do i171_18 rfl ?_
    refine sh_istore (i' := 3) (n := 1) i171_19 (Or.inr ⟨rfl, by decide⟩) (xokst_of (Nat.le_of_ble_eq_true rfl) rfl) ?_
    exact l171_20_ok hd xFuel hf
end
section
def j172_34  (o0 : Option Nat) (x1 : Int32) (s0 : Int32) (h : xH) : Option (Int32 × xH) := (if s0 &&& 1 = s0 then some (s0, h) else none)
theorem j172_34_ok {xs : List Int32} {d : Nat} (hd : 6 ≤ d) {o0 : Option Nat} {x1 : Int32} {s0 : Int32} {h : xH} {r : (Int32 × xH)} (hf : j172_34 o0 x1 s0 h = some r) : xEv (xTa xs) d 172 (34, [xrv o0, .int x1], [.int s0], h) (some (.int r.1), r.2) := by
  unfold j172_34 at hf
  by_cases c_1 : s0 &&& 1 = s0
  · replace hf := x_pos c_1 hf
    obtain rfl := Option.some.inj hf
    exact sh_iret i172_34 m172 rfl (congrArg Value.int c_1)
  · replace hf := x_neg c_1 hf
    cases hf
def j172_33  (o0 : Option Nat) (x1 : Int32) (h : xH) : Option (Int32 × xH) := j172_34 o0 x1 0 h
theorem j172_33_ok {xs : List Int32} {d : Nat} (hd : 6 ≤ d) {o0 : Option Nat} {x1 : Int32} {h : xH} {r : (Int32 × xH)} (hf : j172_33 o0 x1 h = some r) : xEv (xTa xs) d 172 (33, [xrv o0, .int x1], [], h) (some (.int r.1), r.2) := by
  unfold j172_33 at hf
  refine ev_do i172_33 rfl ?_
  exact j172_34_ok hd hf
def j172_29  (o0 : Option Nat) (x1 : Int32) (h : xH) : Option (Int32 × xH) := j172_34 o0 x1 1 h
theorem j172_29_ok {xs : List Int32} {d : Nat} (hd : 6 ≤ d) {o0 : Option Nat} {x1 : Int32} {h : xH} {r : (Int32 × xH)} (hf : j172_29 o0 x1 h = some r) : xEv (xTa xs) d 172 (29, [xrv o0, .int x1], [], h) (some (.int r.1), r.2) := by
  unfold j172_29 at hf
  refine ev_do i172_29 rfl ?_
  refine sh_goto (t := 34) i172_30 rfl ?_
  exact j172_34_ok hd hf
def fn172 (o0 : Option Nat) (x1 : Int32) (h : xH) : Option (Int32 × xH) := (xcv h o0 11).bind fun _ => (fn167 o0 x1 h).bind fun r_1 => (if r_1.1 = 125 then j172_29 o0 x1 r_1.2 else (xcv r_1.2 o0 11).bind fun _ => (fn167 o0 x1 r_1.2).bind fun r_3 => (if r_3.1 = 123 then (xcv r_3.2 o0 11).bind fun _ => (fn171 o0 x1 r_3.2).bind fun r_5 => (if r_5.1 = (-1) then j172_29 o0 x1 r_5.2 else j172_33 o0 x1 r_5.2) else j172_33 o0 x1 r_3.2))
theorem fn172_call {xs : List Int32} {d : Nat} (hd : 7 ≤ d) {o0 : Option Nat} {x1 : Int32} {h : xH} {r : (Int32 × xH)} (hf : fn172 o0 x1 h = some r) : xCall (xTa xs) d 172 [xrv o0, .int x1] h (some (.int r.1), r.2) := by
  obtain ⟨d, rfl⟩ : ∃ d2, d = d2 + 1 := ⟨d - 1, by omega⟩
  replace hd : 6 ≤ d := by omega
  refine call_of2 (fl := [xrv o0, .int x1]) (Ls := [xrv o0, .int x1]) m172 (by simp [xfl, xrv_cat, xc_i, xc_j, xc_a, xc_f]) (Nat.le_of_ble_eq_true rfl) rfl ?_
  unfold fn172 at hf
  refine sh_aload (i' := 0) (n := 1) i172_0 (Or.inr ⟨rfl, by decide⟩) rfl ?_
  refine ev_do i172_1 rfl ?_
  obtain ⟨_, eu_9, hf⟩ := x_bind hf
  obtain ⟨r_1, er_1, hf⟩ := x_bind hf
  refine sh_inv (as := [.int x1]) (z := (some (.int r_1.1), r_1.2)) i172_2 v172_227 (Or.inl ⟨by decide, rfl⟩) m167 rfl (Nat.le_of_ble_eq_true rfl) eu_9 (fn167_call (by omega) er_1) ?_
  refine ev_do i172_5 rfl ?_
  refine ev_icmp (t := 29) i172_7 rfl (fun c_2 => ?_) (fun c_2 => ?_)
  · replace hf := x_pos (show r_1.1 = 125 from c_2) hf
    exact j172_29_ok hd hf
  · replace hf := x_neg (show ¬ r_1.1 = 125 from c_2) hf
    refine sh_aload (i' := 0) (n := 1) i172_10 (Or.inr ⟨rfl, by decide⟩) rfl ?_
    refine ev_do i172_11 rfl ?_
    obtain ⟨_, eu_8, hf⟩ := x_bind hf
    obtain ⟨r_3, er_3, hf⟩ := x_bind hf
    refine sh_inv (as := [.int x1]) (z := (some (.int r_3.1), r_3.2)) i172_12 v172_227 (Or.inl ⟨by decide, rfl⟩) m167 rfl (Nat.le_of_ble_eq_true rfl) eu_8 (fn167_call (by omega) er_3) ?_
    refine ev_do i172_15 rfl ?_
    refine ev_icmp (t := 33) i172_17 rfl (fun c_4 => ?_) (fun c_4 => ?_)
    · replace hf := x_neg (show ¬ r_3.1 = 123 from c_4) hf
      exact j172_33_ok hd hf
    · replace hf := x_pos (show r_3.1 = 123 from Decidable.byContradiction (fun h9 => c_4 h9)) hf
      refine sh_aload (i' := 0) (n := 1) i172_20 (Or.inr ⟨rfl, by decide⟩) rfl ?_
      refine ev_do i172_21 rfl ?_
      obtain ⟨_, eu_7, hf⟩ := x_bind hf
      obtain ⟨r_5, er_5, hf⟩ := x_bind hf
      refine sh_inv (as := [.int x1]) (z := (some (.int r_5.1), r_5.2)) i172_22 v172_258 (Or.inl ⟨by decide, rfl⟩) m171 rfl (Nat.le_of_ble_eq_true rfl) eu_7 (fn171_call (by omega) er_5) ?_
      refine ev_do i172_25 rfl ?_
      refine ev_icmp (t := 33) i172_26 rfl (fun c_6 => ?_) (fun c_6 => ?_)
      · replace hf := x_neg (show ¬ r_5.1 = (-1) from c_6) hf
        exact j172_33_ok hd hf
      · replace hf := x_pos (show r_5.1 = (-1) from Decidable.byContradiction (fun h9 => c_6 h9)) hf
        exact j172_29_ok hd hf
end
section
def fn173 (o0 : Option Nat) (x1 : Int32) (x2 : Int32) (x3 : Int32) (h : xH) : Option xH := (xgR h o0 11 14).bind fun a_1 => (xaI h 13 a_1 40).bind fun v_2 => (xgR h o0 11 14).bind fun a_3 => (xaI h 13 a_3 40).bind fun v_4 => (xaS h 13 (fun x => x) a_3 40 (v_4 + 1)).bind fun h_5 => (xgR h_5 o0 11 16).bind fun a_6 => (xaS h_5 13 (fun x => x) a_6 (960 + v_2) x1).bind fun h_7 => (xgR h_7 o0 11 17).bind fun a_8 => (xaS h_7 13 (fun x => x) a_8 (960 + v_2) x2).bind fun h_9 => (xgR h_9 o0 11 18).bind fun a_10 => (xgR h_9 o0 11 15).bind fun a_11 => (xaI h_9 13 a_11 40).bind fun v_12 => (xaS h_9 13 (fun x => x) a_10 (960 + v_2) v_12).bind fun h_13 => (xgR h_13 o0 11 19).bind fun a_14 => (xaS h_13 13 (fun x => x) a_14 (960 + v_2) 0).bind fun h_15 => (xgR h_15 o0 11 20).bind fun a_16 => (xaS h_15 13 (fun x => x) a_16 (960 + v_2) x3).bind fun h_17 => (xgR h_17 o0 11 21).bind fun a_18 => (xaS h_17 13 (fun x => x) a_18 (960 + v_2) 0).bind fun h_19 => (xgR h_19 o0 11 22).bind fun a_20 => (xaS h_19 13 (fun x => x) a_20 (960 + v_2) 0).bind fun h_21 => (xgR h_21 o0 11 23).bind fun a_22 => (xaS h_21 14 (vp_nar .boolean) a_22 (960 + v_2) 0).bind fun h_23 => (xpF h_23 o0 11 38 .int (.int (-1))).bind fun h_24 => some h_24
theorem fn173_call {xs : List Int32} {d : Nat} (hd : 2 ≤ d) {o0 : Option Nat} {x1 : Int32} {x2 : Int32} {x3 : Int32} {h : xH} {r : xH} (hf : fn173 o0 x1 x2 x3 h = some r) : xCall (xTa xs) d 173 [xrv o0, .int x1, .int x2, .int x3] h (none, r) := by
  obtain ⟨d, rfl⟩ : ∃ d2, d = d2 + 1 := ⟨d - 1, by omega⟩
  replace hd : 1 ≤ d := by omega
  refine call_of2 (fl := [xrv o0, .int x1, .int x2, .int x3]) (Ls := [xrv o0, .int x1, .int x2, .int x3, .float 0]) m173 (by simp [xfl, xrv_cat, xc_i, xc_j, xc_a, xc_f]) (Nat.le_of_ble_eq_true rfl) rfl ?_
  unfold fn173 at hf
  refine ev_do i173_0 rfl ?_
  refine sh_aload (i' := 0) (n := 1) i173_3 (Or.inr ⟨rfl, by decide⟩) rfl ?_
  obtain ⟨a_1, ea_1, hf⟩ := x_bind hf
  refine sh_getR i173_4 f173_47 ea_1 ?_
  refine ev_do i173_7 rfl ?_
  obtain ⟨v_2, ev_2, hf⟩ := x_bind hf
  refine sh_aldI (tg := 13) i173_9 (Or.inl ⟨rfl, rfl⟩) ev_2 ?_
  refine ev_do i173_10 rfl ?_
  refine sh_istore (i' := 4) (n := 2) i173_11 (Or.inl rfl) (xokst_of (Nat.le_of_ble_eq_true rfl) rfl) ?_
  refine sh_aload (i' := 0) (n := 1) i173_13 (Or.inr ⟨rfl, by decide⟩) rfl ?_
  obtain ⟨a_3, ea_3, hf⟩ := x_bind hf
  refine sh_getR i173_14 f173_47 ea_3 ?_
  refine ev_do i173_17 rfl ?_
  refine sh_dup2 i173_19 rfl (xrv_cat (a_3)) ?_
  obtain ⟨v_4, ev_4, hf⟩ := x_bind hf
  refine sh_aldI (tg := 13) i173_20 (Or.inl ⟨rfl, rfl⟩) ev_4 ?_
  refine ev_do i173_21 rfl ?_
  refine ev_do i173_22 rfl ?_
  obtain ⟨h_5, eh_5, hf⟩ := x_bind hf
  refine sh_ast (tg := 13) i173_23 (Or.inl ⟨rfl, rfl, rfl⟩) eh_5 ?_
  refine sh_aload (i' := 0) (n := 1) i173_24 (Or.inr ⟨rfl, by decide⟩) rfl ?_
  obtain ⟨a_6, ea_6, hf⟩ := x_bind hf
  refine sh_getR i173_25 f173_53 ea_6 ?_
  refine ev_do i173_28 rfl ?_
  refine ev_do i173_30 rfl ?_
  obtain ⟨h_7, eh_7, hf⟩ := x_bind hf
  refine sh_ast (tg := 13) i173_31 (Or.inl ⟨rfl, rfl, rfl⟩) eh_7 ?_
  refine sh_aload (i' := 0) (n := 1) i173_32 (Or.inr ⟨rfl, by decide⟩) rfl ?_
  obtain ⟨a_8, ea_8, hf⟩ := x_bind hf
  refine sh_getR i173_33 f173_56 ea_8 ?_
  refine ev_do i173_36 rfl ?_
  refine ev_do i173_38 rfl ?_
  obtain ⟨h_9, eh_9, hf⟩ := x_bind hf
  refine sh_ast (tg := 13) i173_39 (Or.inl ⟨rfl, rfl, rfl⟩) eh_9 ?_
  refine sh_aload (i' := 0) (n := 1) i173_40 (Or.inr ⟨rfl, by decide⟩) rfl ?_
  obtain ⟨a_10, ea_10, hf⟩ := x_bind hf
  refine sh_getR i173_41 f173_59 ea_10 ?_
  refine ev_do i173_44 rfl ?_
  refine sh_aload (i' := 0) (n := 1) i173_46 (Or.inr ⟨rfl, by decide⟩) rfl ?_
  obtain ⟨a_11, ea_11, hf⟩ := x_bind hf
  refine sh_getR i173_47 f173_50 ea_11 ?_
  refine ev_do i173_50 rfl ?_
  obtain ⟨v_12, ev_12, hf⟩ := x_bind hf
  refine sh_aldI (tg := 13) i173_52 (Or.inl ⟨rfl, rfl⟩) ev_12 ?_
  obtain ⟨h_13, eh_13, hf⟩ := x_bind hf
  refine sh_ast (tg := 13) i173_53 (Or.inl ⟨rfl, rfl, rfl⟩) eh_13 ?_
  refine sh_aload (i' := 0) (n := 1) i173_54 (Or.inr ⟨rfl, by decide⟩) rfl ?_
  obtain ⟨a_14, ea_14, hf⟩ := x_bind hf
  refine sh_getR i173_55 f173_62 ea_14 ?_
  refine ev_do i173_58 rfl ?_
  refine ev_do i173_60 rfl ?_
  obtain ⟨h_15, eh_15, hf⟩ := x_bind hf
  refine sh_ast (tg := 13) i173_61 (Or.inl ⟨rfl, rfl, rfl⟩) eh_15 ?_
  refine sh_aload (i' := 0) (n := 1) i173_62 (Or.inr ⟨rfl, by decide⟩) rfl ?_
  obtain ⟨a_16, ea_16, hf⟩ := x_bind hf
  refine sh_getR i173_63 f173_65 ea_16 ?_
  refine ev_do i173_66 rfl ?_
  refine ev_do i173_68 rfl ?_
  obtain ⟨h_17, eh_17, hf⟩ := x_bind hf
  refine sh_ast (tg := 13) i173_69 (Or.inl ⟨rfl, rfl, rfl⟩) eh_17 ?_
  refine sh_aload (i' := 0) (n := 1) i173_70 (Or.inr ⟨rfl, by decide⟩) rfl ?_
  obtain ⟨a_18, ea_18, hf⟩ := x_bind hf
  refine sh_getR i173_71 f173_68 ea_18 ?_
  refine ev_do i173_74 rfl ?_
  refine ev_do i173_76 rfl ?_
  obtain ⟨h_19, eh_19, hf⟩ := x_bind hf
  refine sh_ast (tg := 13) i173_77 (Or.inl ⟨rfl, rfl, rfl⟩) eh_19 ?_
  refine sh_aload (i' := 0) (n := 1) i173_78 (Or.inr ⟨rfl, by decide⟩) rfl ?_
  obtain ⟨a_20, ea_20, hf⟩ := x_bind hf
  refine sh_getR i173_79 f173_71 ea_20 ?_
  refine ev_do i173_82 rfl ?_
  refine ev_do i173_84 rfl ?_
  obtain ⟨h_21, eh_21, hf⟩ := x_bind hf
  refine sh_ast (tg := 13) i173_85 (Or.inl ⟨rfl, rfl, rfl⟩) eh_21 ?_
  refine sh_aload (i' := 0) (n := 1) i173_86 (Or.inr ⟨rfl, by decide⟩) rfl ?_
  obtain ⟨a_22, ea_22, hf⟩ := x_bind hf
  refine sh_getR i173_87 f173_74 ea_22 ?_
  refine ev_do i173_90 rfl ?_
  refine ev_do i173_92 rfl ?_
  obtain ⟨h_23, eh_23, hf⟩ := x_bind hf
  refine sh_ast (tg := 14) i173_93 (Or.inr (Or.inr ⟨rfl, rfl, rfl⟩)) eh_23 ?_
  refine sh_aload (i' := 0) (n := 1) i173_94 (Or.inr ⟨rfl, by decide⟩) rfl ?_
  refine ev_do i173_95 rfl ?_
  obtain ⟨h_24, eh_24, hf⟩ := x_bind hf
  refine sh_put i173_96 f173_261 (by decide) rfl eh_24 ?_
  obtain rfl := Option.some.inj hf
  exact sh_vret i173_99 m173 rfl
end
section
def fn174 (o0 : Option Nat) (h : xH) : Option (Int32 × xH) := (xgR h o0 11 14).bind fun a_1 => (xaI h 13 a_1 40).bind fun v_2 => some ((960 + v_2) - 1, h)
theorem fn174_call {xs : List Int32} {d : Nat} (hd : 2 ≤ d) {o0 : Option Nat} {h : xH} {r : (Int32 × xH)} (hf : fn174 o0 h = some r) : xCall (xTa xs) d 174 [xrv o0] h (some (.int r.1), r.2) := by
  obtain ⟨d, rfl⟩ : ∃ d2, d = d2 + 1 := ⟨d - 1, by omega⟩
  replace hd : 1 ≤ d := by omega
  refine call_of2 (fl := [xrv o0]) (Ls := [xrv o0]) m174 (by simp [xfl, xrv_cat, xc_i, xc_j, xc_a, xc_f]) (Nat.le_of_ble_eq_true rfl) rfl ?_
  unfold fn174 at hf
  refine ev_do i174_0 rfl ?_
  refine sh_aload (i' := 0) (n := 1) i174_3 (Or.inr ⟨rfl, by decide⟩) rfl ?_
  obtain ⟨a_1, ea_1, hf⟩ := x_bind hf
  refine sh_getR i174_4 f174_47 ea_1 ?_
  refine ev_do i174_7 rfl ?_
  obtain ⟨v_2, ev_2, hf⟩ := x_bind hf
  refine sh_aldI (tg := 13) i174_9 (Or.inl ⟨rfl, rfl⟩) ev_2 ?_
  refine ev_do i174_10 rfl ?_
  refine ev_do i174_11 rfl ?_
  refine ev_do i174_12 rfl ?_
  obtain rfl := Option.some.inj hf
  exact sh_iret i174_13 m174 rfl rfl
end
section
def j176_208  (o0 : Option Nat) (x1 : Int32) (x2 : Int32) (h : xH) : Option (Int32 × xH) := (xgR h o0 11 26).bind fun a_1 => (xgI h o0 11 40).bind fun v_2 => (xaS h 13 (fun x => x) a_1 x2 v_2).bind fun h_3 => (xgR h_3 o0 11 27).bind fun a_4 => (xgI h_3 o0 11 41).bind fun v_5 => (xaS h_3 13 (fun x => x) a_4 x2 v_5).bind fun h_6 => (xgI h_6 o0 11 38).bind fun v_7 => some (v_7, h_6)
theorem j176_208_ok {xs : List Int32} {d : Nat} (hd : 6 ≤ d) {u3 : Value} {o0 : Option Nat} {x1 : Int32} {x2 : Int32} {h : xH} {r : (Int32 × xH)} (hu3 : u3.category = 1) (hf : j176_208 o0 x1 x2 h = some r) : xEv (xTa xs) d 176 (208, [xrv o0, .int x1, .int x2, u3], [], h) (some (.int r.1), r.2) := by
  unfold j176_208 at hf
  refine sh_aload (i' := 0) (n := 1) i176_208 (Or.inr ⟨rfl, by decide⟩) rfl ?_
  obtain ⟨a_1, ea_1, hf⟩ := x_bind hf
  refine sh_getR i176_209 f176_83 ea_1 ?_
  refine ev_do i176_212 rfl ?_
  refine sh_aload (i' := 0) (n := 1) i176_213 (Or.inr ⟨rfl, by decide⟩) rfl ?_
  obtain ⟨v_2, ev_2, hf⟩ := x_bind hf
  refine sh_getI i176_214 f176_238 ev_2 ?_
  obtain ⟨h_3, eh_3, hf⟩ := x_bind hf
  refine sh_ast (tg := 13) i176_217 (Or.inl ⟨rfl, rfl, rfl⟩) eh_3 ?_
  refine sh_aload (i' := 0) (n := 1) i176_218 (Or.inr ⟨rfl, by decide⟩) rfl ?_
  obtain ⟨a_4, ea_4, hf⟩ := x_bind hf
  refine sh_getR i176_219 f176_86 ea_4 ?_
  refine ev_do i176_222 rfl ?_
  refine sh_aload (i' := 0) (n := 1) i176_223 (Or.inr ⟨rfl, by decide⟩) rfl ?_
  obtain ⟨v_5, ev_5, hf⟩ := x_bind hf
  refine sh_getI i176_224 f176_241 ev_5 ?_
  obtain ⟨h_6, eh_6, hf⟩ := x_bind hf
  refine sh_ast (tg := 13) i176_227 (Or.inl ⟨rfl, rfl, rfl⟩) eh_6 ?_
  refine sh_aload (i' := 0) (n := 1) i176_228 (Or.inr ⟨rfl, by decide⟩) rfl ?_
  obtain ⟨v_7, ev_7, hf⟩ := x_bind hf
  refine sh_getI i176_229 f176_261 ev_7 ?_
  obtain rfl := Option.some.inj hf
  exact sh_iret i176_232 m176 rfl rfl
def j176_184  (o0 : Option Nat) (x1 : Int32) (x2 : Int32) (x3 : Int32) (h : xH) : Option (Int32 × xH) := (xgR h o0 11 24).bind fun a_1 => (xaS h 13 (fun x => x) a_1 x2 0).bind fun h_2 => (xpF h_2 o0 11 40 .int (.int x1)).bind fun h_3 => (xpF h_3 o0 11 41 .int (.int (x3 - x1))).bind fun h_4 => (xpF h_4 o0 11 38 .int (.int x3)).bind fun h_5 => j176_208 o0 x1 x2 h_5
theorem j176_184_ok {xs : List Int32} {d : Nat} (hd : 6 ≤ d) {o0 : Option Nat} {x1 : Int32} {x2 : Int32} {x3 : Int32} {h : xH} {r : (Int32 × xH)} (hf : j176_184 o0 x1 x2 x3 h = some r) : xEv (xTa xs) d 176 (184, [xrv o0, .int x1, .int x2, .int x3], [], h) (some (.int r.1), r.2) := by
  unfold j176_184 at hf
  refine sh_aload (i' := 0) (n := 1) i176_184 (Or.inr ⟨rfl, by decide⟩) rfl ?_
  obtain ⟨a_1, ea_1, hf⟩ := x_bind hf
  refine sh_getR i176_185 f176_77 ea_1 ?_
  refine ev_do i176_188 rfl ?_
  refine ev_do i176_189 rfl ?_
  obtain ⟨h_2, eh_2, hf⟩ := x_bind hf
  refine sh_ast (tg := 13) i176_190 (Or.inl ⟨rfl, rfl, rfl⟩) eh_2 ?_
  refine sh_aload (i' := 0) (n := 1) i176_191 (Or.inr ⟨rfl, by decide⟩) rfl ?_
  refine ev_do i176_192 rfl ?_
  obtain ⟨h_3, eh_3, hf⟩ := x_bind hf
  refine sh_put i176_193 f176_238 (by decide) rfl eh_3 ?_
  refine sh_aload (i' := 0) (n := 1) i176_196 (Or.inr ⟨rfl, by decide⟩) rfl ?_
  refine ev_do i176_197 rfl ?_
  refine ev_do i176_198 rfl ?_
  refine ev_do i176_199 rfl ?_
  obtain ⟨h_4, eh_4, hf⟩ := x_bind hf
  refine sh_put i176_200 f176_241 (by decide) rfl eh_4 ?_
  refine sh_aload (i' := 0) (n := 1) i176_203 (Or.inr ⟨rfl, by decide⟩) rfl ?_
  refine ev_do i176_204 rfl ?_
  obtain ⟨h_5, eh_5, hf⟩ := x_bind hf
  refine sh_put i176_205 f176_261 (by decide) rfl eh_5 ?_
  exact j176_208_ok hd rfl hf
def l176_140  : Nat → Option Nat → Int32 → Int32 → Int32 → xH → Option (Int32 × xH)
  | 0 => fun _ _ _ _ _ => none
  | n + 1 => fun o0 x1 x2 x3 h => (xgI h o0 11 37).bind fun v_1 => (if v_1 ≤ x3 then j176_184 o0 x1 x2 x3 h else (xcv h o0 11).bind fun _ => (fn167 o0 x3 h).bind fun r_3 => (if r_3.1 = 32 then j176_184 o0 x1 x2 x3 r_3.2 else (xcv r_3.2 o0 11).bind fun _ => (fn167 o0 x3 r_3.2).bind fun r_5 => (if r_5.1 = 123 then j176_184 o0 x1 x2 x3 r_5.2 else (xcv r_5.2 o0 11).bind fun _ => (fn167 o0 x3 r_5.2).bind fun r_7 => (if r_7.1 = 125 then j176_184 o0 x1 x2 x3 r_7.2 else l176_140 n o0 x1 x2 (x3 + 1) r_7.2))))
theorem l176_140_ok {xs : List Int32} {d : Nat} (hd : 6 ≤ d) : ∀ (n : Nat) {o0 : Option Nat} {x1 : Int32} {x2 : Int32} {x3 : Int32} {h : xH} {r : (Int32 × xH)}, l176_140 n o0 x1 x2 x3 h = some r → xEv (xTa xs) d 176 (140, [xrv o0, .int x1, .int x2, .int x3], [], h) (some (.int r.1), r.2) := by
  intro n
  induction n with
  | zero => intros; rename_i hf; cases hf
  | succ n ih =>
    intro o0 x1 x2 x3 h r hf
    replace hf : ((xgI h o0 11 37).bind fun v_1 => (if v_1 ≤ x3 then j176_184 o0 x1 x2 x3 h else (xcv h o0 11).bind fun _ => (fn167 o0 x3 h).bind fun r_3 => (if r_3.1 = 32 then j176_184 o0 x1 x2 x3 r_3.2 else (xcv r_3.2 o0 11).bind fun _ => (fn167 o0 x3 r_3.2).bind fun r_5 => (if r_5.1 = 123 then j176_184 o0 x1 x2 x3 r_5.2 else (xcv r_5.2 o0 11).bind fun _ => (fn167 o0 x3 r_5.2).bind fun r_7 => (if r_7.1 = 125 then j176_184 o0 x1 x2 x3 r_7.2 else l176_140 n o0 x1 x2 (x3 + 1) r_7.2))))) = some r := hf
    refine ev_do i176_140 rfl ?_
    refine sh_aload (i' := 0) (n := 1) i176_141 (Or.inr ⟨rfl, by decide⟩) rfl ?_
    obtain ⟨v_1, ev_1, hf⟩ := x_bind hf
    refine sh_getI i176_142 f176_224 ev_1 ?_
    refine ev_icmp (t := 184) i176_145 rfl (fun c_2 => ?_) (fun c_2 => ?_)
    · replace hf := x_pos (show v_1 ≤ x3 from c_2) hf
      exact j176_184_ok hd hf
    · replace hf := x_neg (show ¬ v_1 ≤ x3 from c_2) hf
      refine sh_aload (i' := 0) (n := 1) i176_148 (Or.inr ⟨rfl, by decide⟩) rfl ?_
      refine ev_do i176_149 rfl ?_
      obtain ⟨_, eu_11, hf⟩ := x_bind hf
      obtain ⟨r_3, er_3, hf⟩ := x_bind hf
      refine sh_inv (as := [.int x3]) (z := (some (.int r_3.1), r_3.2)) i176_150 v176_227 (Or.inl ⟨by decide, rfl⟩) m167 rfl (Nat.le_of_ble_eq_true rfl) eu_11 (fn167_call (by omega) er_3) ?_
      refine ev_do i176_153 rfl ?_
      refine ev_icmp (t := 184) i176_155 rfl (fun c_4 => ?_) (fun c_4 => ?_)
      · replace hf := x_pos (show r_3.1 = 32 from c_4) hf
        exact j176_184_ok hd hf
      · replace hf := x_neg (show ¬ r_3.1 = 32 from c_4) hf
        refine sh_aload (i' := 0) (n := 1) i176_158 (Or.inr ⟨rfl, by decide⟩) rfl ?_
        refine ev_do i176_159 rfl ?_
        obtain ⟨_, eu_10, hf⟩ := x_bind hf
        obtain ⟨r_5, er_5, hf⟩ := x_bind hf
        refine sh_inv (as := [.int x3]) (z := (some (.int r_5.1), r_5.2)) i176_160 v176_227 (Or.inl ⟨by decide, rfl⟩) m167 rfl (Nat.le_of_ble_eq_true rfl) eu_10 (fn167_call (by omega) er_5) ?_
        refine ev_do i176_163 rfl ?_
        refine ev_icmp (t := 184) i176_165 rfl (fun c_6 => ?_) (fun c_6 => ?_)
        · replace hf := x_pos (show r_5.1 = 123 from c_6) hf
          exact j176_184_ok hd hf
        · replace hf := x_neg (show ¬ r_5.1 = 123 from c_6) hf
          refine sh_aload (i' := 0) (n := 1) i176_168 (Or.inr ⟨rfl, by decide⟩) rfl ?_
          refine ev_do i176_169 rfl ?_
          obtain ⟨_, eu_9, hf⟩ := x_bind hf
          obtain ⟨r_7, er_7, hf⟩ := x_bind hf
          refine sh_inv (as := [.int x3]) (z := (some (.int r_7.1), r_7.2)) i176_170 v176_227 (Or.inl ⟨by decide, rfl⟩) m167 rfl (Nat.le_of_ble_eq_true rfl) eu_9 (fn167_call (by omega) er_7) ?_
          refine ev_do i176_173 rfl ?_
          refine ev_icmp (t := 184) i176_175 rfl (fun c_8 => ?_) (fun c_8 => ?_)
          · replace hf := x_pos (show r_7.1 = 125 from c_8) hf
            exact j176_184_ok hd hf
          · replace hf := x_neg (show ¬ r_7.1 = 125 from c_8) hf
            refine sh_inc (i' := 3) i176_178 rfl (xokst_of (Nat.le_of_ble_eq_true rfl) rfl) rfl ?_
            refine sh_goto (t := 140) i176_181 rfl ?_
            exact ih hf
def j176_61  (o0 : Option Nat) (x1 : Int32) (x2 : Int32) (s0 : Option Nat) (s1 : Int32) (s2 : Int32) (h : xH) : Option (Int32 × xH) := (xaS h 14 (vp_nar .boolean) s0 s1 s2).bind fun h_1 => (xgR h_1 o0 11 29).bind fun a_2 => (xaS h_1 13 (fun x => x) a_2 x2 0).bind fun h_3 => (xgR h_3 o0 11 30).bind fun a_4 => (xaS h_3 13 (fun x => x) a_4 x2 0).bind fun h_5 => (xcv h_5 o0 11).bind fun _ => (fn167 o0 x1 h_5).bind fun r_6 => (if r_6.1 = 123 then (xgR r_6.2 o0 11 24).bind fun a_8 => (xcv r_6.2 o0 11).bind fun _ => (fn171 o0 x1 r_6.2).bind fun r_9 => (xaS r_9.2 13 (fun x => x) a_8 x2 r_9.1).bind fun h_10 => (xgI h_10 o0 11 39).bind fun v_11 => (xpF h_10 o0 11 38 .int (.int v_11)).bind fun h_12 => (xgR h_12 o0 11 24).bind fun a_13 => (xaI h_12 13 a_13 x2).bind fun v_14 => (if v_14 = 2 then (xgR h_12 o0 11 29).bind fun a_16 => (xgI h_12 o0 11 42).bind fun v_17 => (xaS h_12 13 (fun x => x) a_16 x2 v_17).bind fun h_18 => (xgR h_18 o0 11 30).bind fun a_19 => (xgI h_18 o0 11 43).bind fun v_20 => (xaS h_18 13 (fun x => x) a_19 x2 v_20).bind fun h_21 => j176_208 o0 x1 x2 h_21 else j176_208 o0 x1 x2 h_12) else l176_140 xFuel o0 x1 x2 x1 r_6.2)
theorem j176_61_ok {xs : List Int32} {d : Nat} (hd : 6 ≤ d) {u3 : Value} {o0 : Option Nat} {x1 : Int32} {x2 : Int32} {s0 : Option Nat} {s1 : Int32} {s2 : Int32} {h : xH} {r : (Int32 × xH)} (hu3 : u3.category = 1) (hf : j176_61 o0 x1 x2 s0 s1 s2 h = some r) : xEv (xTa xs) d 176 (61, [xrv o0, .int x1, .int x2, u3], [.int s2, .int s1, xrv s0], h) (some (.int r.1), r.2) := by
  unfold j176_61 at hf
  obtain ⟨h_1, eh_1, hf⟩ := x_bind hf
  refine sh_ast (tg := 14) i176_61 (Or.inr (Or.inr ⟨rfl, rfl, rfl⟩)) eh_1 ?_
  refine sh_aload (i' := 0) (n := 1) i176_62 (Or.inr ⟨rfl, by decide⟩) rfl ?_
  obtain ⟨a_2, ea_2, hf⟩ := x_bind hf
  refine sh_getR i176_63 f176_92 ea_2 ?_
  refine ev_do i176_66 rfl ?_
  refine ev_do i176_67 rfl ?_
  obtain ⟨h_3, eh_3, hf⟩ := x_bind hf
  refine sh_ast (tg := 13) i176_68 (Or.inl ⟨rfl, rfl, rfl⟩) eh_3 ?_
  refine sh_aload (i' := 0) (n := 1) i176_69 (Or.inr ⟨rfl, by decide⟩) rfl ?_
  obtain ⟨a_4, ea_4, hf⟩ := x_bind hf
  refine sh_getR i176_70 f176_95 ea_4 ?_
  refine ev_do i176_73 rfl ?_
  refine ev_do i176_74 rfl ?_
  obtain ⟨h_5, eh_5, hf⟩ := x_bind hf
  refine sh_ast (tg := 13) i176_75 (Or.inl ⟨rfl, rfl, rfl⟩) eh_5 ?_
  refine sh_aload (i' := 0) (n := 1) i176_76 (Or.inr ⟨rfl, by decide⟩) rfl ?_
  refine ev_do i176_77 rfl ?_
  obtain ⟨_, eu_23, hf⟩ := x_bind hf
  obtain ⟨r_6, er_6, hf⟩ := x_bind hf
  refine sh_inv (as := [.int x1]) (z := (some (.int r_6.1), r_6.2)) i176_78 v176_227 (Or.inl ⟨by decide, rfl⟩) m167 rfl (Nat.le_of_ble_eq_true rfl) eu_23 (fn167_call (by omega) er_6) ?_
  refine ev_do i176_81 rfl ?_
  refine ev_icmp (t := 138) i176_83 rfl (fun c_7 => ?_) (fun c_7 => ?_)
  · replace hf := x_neg (show ¬ r_6.1 = 123 from c_7) hf
    refine ev_do i176_138 rfl ?_
    refine sh_istore (i' := 3) (n := 1) i176_139 (Or.inr ⟨rfl, by decide⟩) (xokst_of (Nat.le_of_ble_eq_true rfl) rfl) ?_
    exact l176_140_ok hd xFuel hf
  · replace hf := x_pos (show r_6.1 = 123 from Decidable.byContradiction (fun h9 => c_7 h9)) hf
    refine sh_aload (i' := 0) (n := 1) i176_86 (Or.inr ⟨rfl, by decide⟩) rfl ?_
    obtain ⟨a_8, ea_8, hf⟩ := x_bind hf
    refine sh_getR i176_87 f176_77 ea_8 ?_
    refine ev_do i176_90 rfl ?_
    refine sh_aload (i' := 0) (n := 1) i176_91 (Or.inr ⟨rfl, by decide⟩) rfl ?_
    refine ev_do i176_92 rfl ?_
    obtain ⟨_, eu_22, hf⟩ := x_bind hf
    obtain ⟨r_9, er_9, hf⟩ := x_bind hf
    refine sh_inv (as := [.int x1]) (z := (some (.int r_9.1), r_9.2)) i176_93 v176_258 (Or.inl ⟨by decide, rfl⟩) m171 rfl (by simp [xcat, xrv_cat, xc_i, xc_j, xc_a, xc_f]) eu_22 (fn171_call (by omega) er_9) ?_
    obtain ⟨h_10, eh_10, hf⟩ := x_bind hf
    refine sh_ast (tg := 13) i176_96 (Or.inl ⟨rfl, rfl, rfl⟩) eh_10 ?_
    refine sh_aload (i' := 0) (n := 1) i176_97 (Or.inr ⟨rfl, by decide⟩) rfl ?_
    refine sh_aload (i' := 0) (n := 1) i176_98 (Or.inr ⟨rfl, by decide⟩) rfl ?_
    obtain ⟨v_11, ev_11, hf⟩ := x_bind hf
    refine sh_getI i176_99 f176_244 ev_11 ?_
    obtain ⟨h_12, eh_12, hf⟩ := x_bind hf
    refine sh_put i176_102 f176_261 (by decide) rfl eh_12 ?_
    refine sh_aload (i' := 0) (n := 1) i176_105 (Or.inr ⟨rfl, by decide⟩) rfl ?_
    obtain ⟨a_13, ea_13, hf⟩ := x_bind hf
    refine sh_getR i176_106 f176_77 ea_13 ?_
    refine ev_do i176_109 rfl ?_
    obtain ⟨v_14, ev_14, hf⟩ := x_bind hf
    refine sh_aldI (tg := 13) i176_110 (Or.inl ⟨rfl, rfl⟩) ev_14 ?_
    refine ev_do i176_111 rfl ?_
    refine ev_icmp (t := 208) i176_112 rfl (fun c_15 => ?_) (fun c_15 => ?_)
    · replace hf := x_neg (show ¬ v_14 = 2 from c_15) hf
      exact j176_208_ok hd hu3 hf
    · replace hf := x_pos (show v_14 = 2 from Decidable.byContradiction (fun h9 => c_15 h9)) hf
      refine sh_aload (i' := 0) (n := 1) i176_115 (Or.inr ⟨rfl, by decide⟩) rfl ?_
      obtain ⟨a_16, ea_16, hf⟩ := x_bind hf
      refine sh_getR i176_116 f176_92 ea_16 ?_
      refine ev_do i176_119 rfl ?_
      refine sh_aload (i' := 0) (n := 1) i176_120 (Or.inr ⟨rfl, by decide⟩) rfl ?_
      obtain ⟨v_17, ev_17, hf⟩ := x_bind hf
      refine sh_getI i176_121 f176_249 ev_17 ?_
      obtain ⟨h_18, eh_18, hf⟩ := x_bind hf
      refine sh_ast (tg := 13) i176_124 (Or.inl ⟨rfl, rfl, rfl⟩) eh_18 ?_
      refine sh_aload (i' := 0) (n := 1) i176_125 (Or.inr ⟨rfl, by decide⟩) rfl ?_
      obtain ⟨a_19, ea_19, hf⟩ := x_bind hf
      refine sh_getR i176_126 f176_95 ea_19 ?_
      refine ev_do i176_129 rfl ?_
      refine sh_aload (i' := 0) (n := 1) i176_130 (Or.inr ⟨rfl, by decide⟩) rfl ?_
      obtain ⟨v_20, ev_20, hf⟩ := x_bind hf
      refine sh_getI i176_131 f176_252 ev_20 ?_
      obtain ⟨h_21, eh_21, hf⟩ := x_bind hf
      refine sh_ast (tg := 13) i176_134 (Or.inl ⟨rfl, rfl, rfl⟩) eh_21 ?_
      refine sh_goto (t := 208) i176_135 rfl ?_
      exact j176_208_ok hd hu3 hf
def fn176 (o0 : Option Nat) (x1 : Int32) (h : xH) : Option (Int32 × xH) := (xgR h o0 11 15).bind fun a_1 => (xaI h 13 a_1 40).bind fun v_2 => (xgR h o0 11 15).bind fun a_3 => (xaI h 13 a_3 40).bind fun v_4 => (xaS h 13 (fun x => x) a_3 40 (v_4 + 1)).bind fun h_5 => (xgR h_5 o0 11 19).bind fun a_6 => (xcv h_5 o0 11).bind fun _ => (fn174 o0 h_5).bind fun r_7 => (xaI r_7.2 13 a_6 r_7.1).bind fun v_8 => (xaS r_7.2 13 (fun x => x) a_6 r_7.1 (v_8 + 1)).bind fun h_9 => (xgR h_9 o0 11 25).bind fun a_10 => (xaS h_9 13 (fun x => x) a_10 (4800 + v_2) x1).bind fun h_11 => (xgR h_11 o0 11 28).bind fun a_12 => (xgI h_11 o0 11 38).bind fun v_13 => (if v_13 = x1 then j176_61 o0 x1 (4800 + v_2) a_12 (4800 + v_2) 1 h_11 else j176_61 o0 x1 (4800 + v_2) a_12 (4800 + v_2) 0 h_11)
theorem fn176_call {xs : List Int32} {d : Nat} (hd : 7 ≤ d) {o0 : Option Nat} {x1 : Int32} {h : xH} {r : (Int32 × xH)} (hf : fn176 o0 x1 h = some r) : xCall (xTa xs) d 176 [xrv o0, .int x1] h (some (.int r.1), r.2) := by
  obtain ⟨d, rfl⟩ : ∃ d2, d = d2 + 1 := ⟨d - 1, by omega⟩
  replace hd : 6 ≤ d := by omega
  refine call_of2 (fl := [xrv o0, .int x1]) (Ls := [xrv o0, .int x1, .float 0, .float 0]) m176 (by simp [xfl, xrv_cat, xc_i, xc_j, xc_a, xc_f]) (Nat.le_of_ble_eq_true rfl) rfl ?_
  unfold fn176 at hf
  refine ev_do i176_0 rfl ?_
  refine sh_aload (i' := 0) (n := 1) i176_3 (Or.inr ⟨rfl, by decide⟩) rfl ?_
  obtain ⟨a_1, ea_1, hf⟩ := x_bind hf
  refine sh_getR i176_4 f176_50 ea_1 ?_
  refine ev_do i176_7 rfl ?_
  obtain ⟨v_2, ev_2, hf⟩ := x_bind hf
  refine sh_aldI (tg := 13) i176_9 (Or.inl ⟨rfl, rfl⟩) ev_2 ?_
  refine ev_do i176_10 rfl ?_
  refine sh_istore (i' := 2) (n := 1) i176_11 (Or.inr ⟨rfl, by decide⟩) (xokst_of (Nat.le_of_ble_eq_true rfl) rfl) ?_
  refine sh_aload (i' := 0) (n := 1) i176_12 (Or.inr ⟨rfl, by decide⟩) rfl ?_
  obtain ⟨a_3, ea_3, hf⟩ := x_bind hf
  refine sh_getR i176_13 f176_50 ea_3 ?_
  refine ev_do i176_16 rfl ?_
  refine sh_dup2 i176_18 rfl (xrv_cat (a_3)) ?_
  obtain ⟨v_4, ev_4, hf⟩ := x_bind hf
  refine sh_aldI (tg := 13) i176_19 (Or.inl ⟨rfl, rfl⟩) ev_4 ?_
  refine ev_do i176_20 rfl ?_
  refine ev_do i176_21 rfl ?_
  obtain ⟨h_5, eh_5, hf⟩ := x_bind hf
  refine sh_ast (tg := 13) i176_22 (Or.inl ⟨rfl, rfl, rfl⟩) eh_5 ?_
  refine sh_aload (i' := 0) (n := 1) i176_23 (Or.inr ⟨rfl, by decide⟩) rfl ?_
  obtain ⟨a_6, ea_6, hf⟩ := x_bind hf
  refine sh_getR i176_24 f176_62 ea_6 ?_
  refine sh_aload (i' := 0) (n := 1) i176_27 (Or.inr ⟨rfl, by decide⟩) rfl ?_
  obtain ⟨_, eu_15, hf⟩ := x_bind hf
  obtain ⟨r_7, er_7, hf⟩ := x_bind hf
  refine sh_inv (as := []) (z := (some (.int r_7.1), r_7.2)) i176_28 v176_274 (Or.inl ⟨by decide, rfl⟩) m174 rfl (by simp [xcat, xrv_cat, xc_i, xc_j, xc_a, xc_f]) eu_15 (fn174_call (by omega) er_7) ?_
  refine sh_dup2 i176_31 rfl (xrv_cat (a_6)) ?_
  obtain ⟨v_8, ev_8, hf⟩ := x_bind hf
  refine sh_aldI (tg := 13) i176_32 (Or.inl ⟨rfl, rfl⟩) ev_8 ?_
  refine ev_do i176_33 rfl ?_
  refine ev_do i176_34 rfl ?_
  obtain ⟨h_9, eh_9, hf⟩ := x_bind hf
  refine sh_ast (tg := 13) i176_35 (Or.inl ⟨rfl, rfl, rfl⟩) eh_9 ?_
  refine sh_aload (i' := 0) (n := 1) i176_36 (Or.inr ⟨rfl, by decide⟩) rfl ?_
  obtain ⟨a_10, ea_10, hf⟩ := x_bind hf
  refine sh_getR i176_37 f176_80 ea_10 ?_
  refine ev_do i176_40 rfl ?_
  refine ev_do i176_41 rfl ?_
  obtain ⟨h_11, eh_11, hf⟩ := x_bind hf
  refine sh_ast (tg := 13) i176_42 (Or.inl ⟨rfl, rfl, rfl⟩) eh_11 ?_
  refine sh_aload (i' := 0) (n := 1) i176_43 (Or.inr ⟨rfl, by decide⟩) rfl ?_
  obtain ⟨a_12, ea_12, hf⟩ := x_bind hf
  refine sh_getR i176_44 f176_89 ea_12 ?_
  refine ev_do i176_47 rfl ?_
  refine sh_aload (i' := 0) (n := 1) i176_48 (Or.inr ⟨rfl, by decide⟩) rfl ?_
  obtain ⟨v_13, ev_13, hf⟩ := x_bind hf
  refine sh_getI i176_49 f176_261 ev_13 ?_
  refine ev_do i176_52 rfl ?_
  refine ev_icmp (t := 60) i176_53 rfl (fun c_14 => ?_) (fun c_14 => ?_)
  · replace hf := x_neg (show ¬ v_13 = x1 from c_14) hf
    refine ev_do i176_60 rfl ?_
    exact j176_61_ok hd rfl hf
  · replace hf := x_pos (show v_13 = x1 from Decidable.byContradiction (fun h9 => c_14 h9)) hf
    refine ev_do i176_56 rfl ?_
    refine sh_goto (t := 61) i176_57 rfl ?_
    exact j176_61_ok hd rfl hf
end
