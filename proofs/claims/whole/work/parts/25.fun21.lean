section
def fn215 (o0 : Option Nat) (x1 : Int32) (h : xH) : Option (Int32 × xH) := (if x1 = 0 then (xgI h o0 11 55).bind fun v_2 => some (v_2, h) else (if x1 = 1 then (xgI h o0 11 53).bind fun v_4 => some (v_4, h) else (if x1 = 2 then (xgI h o0 11 59).bind fun v_6 => some (v_6, h) else (if x1 = 3 then (xgI h o0 11 56).bind fun v_8 => some (v_8, h) else (if x1 = 4 then (xgI h o0 11 57).bind fun v_10 => some (v_10, h) else some ((-1), h))))))
theorem fn215_call {xs : List Int32} {d : Nat} (hd : 2 ≤ d) {o0 : Option Nat} {x1 : Int32} {h : xH} {r : (Int32 × xH)} (hf : fn215 o0 x1 h = some r) : xCall (xTa xs) d 215 [xrv o0, .int x1] h (some (.int r.1), r.2) := by
  obtain ⟨d, rfl⟩ : ∃ d2, d = d2 + 1 := ⟨d - 1, by omega⟩
  replace hd : 1 ≤ d := by omega
  refine call_of2 (fl := [xrv o0, .int x1]) (Ls := [xrv o0, .int x1]) m215 (by simp [xfl, xrv_cat, xc_i, xc_j, xc_a, xc_f]) (Nat.le_of_ble_eq_true rfl) rfl ?_
  unfold fn215 at hf
  refine ev_do i215_0 rfl ?_
  by_cases c_1 : x1 = 0
  · replace hf := x_pos c_1 hf
    refine sh_tswC (c := 0) (t := 36) i215_1 (show (x1).toInt = 0 by rw [c_1]; rfl) (by decide) (by decide) rfl rfl ?_
    refine sh_aload (i' := 0) (n := 1) i215_36 (Or.inr ⟨rfl, by decide⟩) rfl ?_
    obtain ⟨v_2, ev_2, hf⟩ := x_bind hf
    refine sh_getI i215_37 f215_443 ev_2 ?_
    obtain rfl := Option.some.inj hf
    exact sh_iret i215_40 m215 rfl rfl
  · replace hf := x_neg c_1 hf
    by_cases c_3 : x1 = 1
    · replace hf := x_pos c_3 hf
      refine sh_tswC (c := 1) (t := 41) i215_1 (show (x1).toInt = 1 by rw [c_3]; rfl) (by decide) (by decide) rfl rfl ?_
      refine sh_aload (i' := 0) (n := 1) i215_41 (Or.inr ⟨rfl, by decide⟩) rfl ?_
      obtain ⟨v_4, ev_4, hf⟩ := x_bind hf
      refine sh_getI i215_42 f215_440 ev_4 ?_
      obtain rfl := Option.some.inj hf
      exact sh_iret i215_45 m215 rfl rfl
    · replace hf := x_neg c_3 hf
      by_cases c_5 : x1 = 2
      · replace hf := x_pos c_5 hf
        refine sh_tswC (c := 2) (t := 46) i215_1 (show (x1).toInt = 2 by rw [c_5]; rfl) (by decide) (by decide) rfl rfl ?_
        refine sh_aload (i' := 0) (n := 1) i215_46 (Or.inr ⟨rfl, by decide⟩) rfl ?_
        obtain ⟨v_6, ev_6, hf⟩ := x_bind hf
        refine sh_getI i215_47 f215_446 ev_6 ?_
        obtain rfl := Option.some.inj hf
        exact sh_iret i215_50 m215 rfl rfl
      · replace hf := x_neg c_5 hf
        by_cases c_7 : x1 = 3
        · replace hf := x_pos c_7 hf
          refine sh_tswC (c := 3) (t := 51) i215_1 (show (x1).toInt = 3 by rw [c_7]; rfl) (by decide) (by decide) rfl rfl ?_
          refine sh_aload (i' := 0) (n := 1) i215_51 (Or.inr ⟨rfl, by decide⟩) rfl ?_
          obtain ⟨v_8, ev_8, hf⟩ := x_bind hf
          refine sh_getI i215_52 f215_449 ev_8 ?_
          obtain rfl := Option.some.inj hf
          exact sh_iret i215_55 m215 rfl rfl
        · replace hf := x_neg c_7 hf
          by_cases c_9 : x1 = 4
          · replace hf := x_pos c_9 hf
            refine sh_tswC (c := 4) (t := 56) i215_1 (show (x1).toInt = 4 by rw [c_9]; rfl) (by decide) (by decide) rfl rfl ?_
            refine sh_aload (i' := 0) (n := 1) i215_56 (Or.inr ⟨rfl, by decide⟩) rfl ?_
            obtain ⟨v_10, ev_10, hf⟩ := x_bind hf
            refine sh_getI i215_57 f215_452 ev_10 ?_
            obtain rfl := Option.some.inj hf
            exact sh_iret i215_60 m215 rfl rfl
          · replace hf := x_neg c_9 hf
            have nc_1 : (x1).toInt ≠ 0 := fun h9 => c_1 (Int32.toInt_inj.mp h9)
            have nc_3 : (x1).toInt ≠ 1 := fun h9 => c_3 (Int32.toInt_inj.mp h9)
            have nc_5 : (x1).toInt ≠ 2 := fun h9 => c_5 (Int32.toInt_inj.mp h9)
            have nc_7 : (x1).toInt ≠ 3 := fun h9 => c_7 (Int32.toInt_inj.mp h9)
            have nc_9 : (x1).toInt ≠ 4 := fun h9 => c_9 (Int32.toInt_inj.mp h9)
            refine sh_tswD (t := 61) i215_1 (show (x1).toInt < 0 ∨ 4 < (x1).toInt by omega) rfl ?_
            refine ev_do i215_61 rfl ?_
            obtain rfl := Option.some.inj hf
            exact sh_iret i215_62 m215 rfl rfl
end
section
def j216_24  (o0 : Option Nat) (x1 : Int32) (s0 : Int32) (h : xH) : Option (Int32 × xH) := some (s0, h)
theorem j216_24_ok {xs : List Int32} {d : Nat} (hd : 2 ≤ d) {o0 : Option Nat} {x1 : Int32} {s0 : Int32} {h : xH} {r : (Int32 × xH)} (hf : j216_24 o0 x1 s0 h = some r) : xEv (xTa xs) d 216 (24, [xrv o0, .int x1], [.int s0], h) (some (.int r.1), r.2) := by
  unfold j216_24 at hf
  obtain rfl := Option.some.inj hf
  exact sh_iret i216_24 m216 rfl rfl
def fn216 (o0 : Option Nat) (x1 : Int32) (h : xH) : Option (Int32 × xH) := (xgI h o0 11 53).bind fun v_1 => (fn141 x1 0 (v_1 - 1) h).bind fun r_2 => (if r_2.1 = 0 then j216_24 o0 x1 0 r_2.2 else (xgR r_2.2 o0 11 52).bind fun a_4 => (xaI r_2.2 13 a_4 x1).bind fun v_5 => j216_24 o0 x1 v_5 r_2.2)
theorem fn216_call {xs : List Int32} {d : Nat} (hd : 3 ≤ d) {o0 : Option Nat} {x1 : Int32} {h : xH} {r : (Int32 × xH)} (hf : fn216 o0 x1 h = some r) : xCall (xTa xs) d 216 [xrv o0, .int x1] h (some (.int r.1), r.2) := by
  obtain ⟨d, rfl⟩ : ∃ d2, d = d2 + 1 := ⟨d - 1, by omega⟩
  replace hd : 2 ≤ d := by omega
  refine call_of2 (fl := [xrv o0, .int x1]) (Ls := [xrv o0, .int x1]) m216 (by simp [xfl, xrv_cat, xc_i, xc_j, xc_a, xc_f]) (Nat.le_of_ble_eq_true rfl) rfl ?_
  unfold fn216 at hf
  refine ev_do i216_0 rfl ?_
  refine ev_do i216_1 rfl ?_
  refine sh_aload (i' := 0) (n := 1) i216_2 (Or.inr ⟨rfl, by decide⟩) rfl ?_
  obtain ⟨v_1, ev_1, hf⟩ := x_bind hf
  refine sh_getI i216_3 f216_440 ev_1 ?_
  refine ev_do i216_6 rfl ?_
  refine ev_do i216_7 rfl ?_
  obtain ⟨r_2, er_2, hf⟩ := x_bind hf
  refine ev_sta (as := [.int (v_1 - 1), .int 0, .int x1]) (z := (some (.int r_2.1), r_2.2)) i216_8 v216_154 (Or.inl rfl) m141 rfl (Nat.le_of_ble_eq_true rfl) (fn141_call (by omega) er_2) ?_
  refine ev_if (t := 23) i216_11 rfl (fun c_3 => ?_) (fun c_3 => ?_)
  · replace hf := x_pos (show r_2.1 = 0 from c_3) hf
    refine ev_do i216_23 rfl ?_
    exact j216_24_ok hd hf
  · replace hf := x_neg (show ¬ r_2.1 = 0 from c_3) hf
    refine sh_aload (i' := 0) (n := 1) i216_14 (Or.inr ⟨rfl, by decide⟩) rfl ?_
    obtain ⟨a_4, ea_4, hf⟩ := x_bind hf
    refine sh_getR i216_15 f216_107 ea_4 ?_
    refine ev_do i216_18 rfl ?_
    obtain ⟨v_5, ev_5, hf⟩ := x_bind hf
    refine sh_aldI (tg := 13) i216_19 (Or.inl ⟨rfl, rfl⟩) ev_5 ?_
    refine sh_goto (t := 24) i216_20 rfl ?_
    exact j216_24_ok hd hf
end
section
def j217_24  (o0 : Option Nat) (x1 : Int32) (s0 : Int32) (h : xH) : Option (Int32 × xH) := some (s0, h)
theorem j217_24_ok {xs : List Int32} {d : Nat} (hd : 2 ≤ d) {o0 : Option Nat} {x1 : Int32} {s0 : Int32} {h : xH} {r : (Int32 × xH)} (hf : j217_24 o0 x1 s0 h = some r) : xEv (xTa xs) d 217 (24, [xrv o0, .int x1], [.int s0], h) (some (.int r.1), r.2) := by
  unfold j217_24 at hf
  obtain rfl := Option.some.inj hf
  exact sh_iret i217_24 m217 rfl rfl
def fn217 (o0 : Option Nat) (x1 : Int32) (h : xH) : Option (Int32 × xH) := (xgI h o0 11 55).bind fun v_1 => (fn141 x1 0 (v_1 - 1) h).bind fun r_2 => (if r_2.1 = 0 then j217_24 o0 x1 (-1) r_2.2 else (xgR r_2.2 o0 11 54).bind fun a_4 => (xaI r_2.2 13 a_4 x1).bind fun v_5 => j217_24 o0 x1 v_5 r_2.2)
theorem fn217_call {xs : List Int32} {d : Nat} (hd : 3 ≤ d) {o0 : Option Nat} {x1 : Int32} {h : xH} {r : (Int32 × xH)} (hf : fn217 o0 x1 h = some r) : xCall (xTa xs) d 217 [xrv o0, .int x1] h (some (.int r.1), r.2) := by
  obtain ⟨d, rfl⟩ : ∃ d2, d = d2 + 1 := ⟨d - 1, by omega⟩
  replace hd : 2 ≤ d := by omega
  refine call_of2 (fl := [xrv o0, .int x1]) (Ls := [xrv o0, .int x1]) m217 (by simp [xfl, xrv_cat, xc_i, xc_j, xc_a, xc_f]) (Nat.le_of_ble_eq_true rfl) rfl ?_
  unfold fn217 at hf
  refine ev_do i217_0 rfl ?_
  refine ev_do i217_1 rfl ?_
  refine sh_aload (i' := 0) (n := 1) i217_2 (Or.inr ⟨rfl, by decide⟩) rfl ?_
  obtain ⟨v_1, ev_1, hf⟩ := x_bind hf
  refine sh_getI i217_3 f217_443 ev_1 ?_
  refine ev_do i217_6 rfl ?_
  refine ev_do i217_7 rfl ?_
  obtain ⟨r_2, er_2, hf⟩ := x_bind hf
  refine ev_sta (as := [.int (v_1 - 1), .int 0, .int x1]) (z := (some (.int r_2.1), r_2.2)) i217_8 v217_154 (Or.inl rfl) m141 rfl (Nat.le_of_ble_eq_true rfl) (fn141_call (by omega) er_2) ?_
  refine ev_if (t := 23) i217_11 rfl (fun c_3 => ?_) (fun c_3 => ?_)
  · replace hf := x_pos (show r_2.1 = 0 from c_3) hf
    refine ev_do i217_23 rfl ?_
    exact j217_24_ok hd hf
  · replace hf := x_neg (show ¬ r_2.1 = 0 from c_3) hf
    refine sh_aload (i' := 0) (n := 1) i217_14 (Or.inr ⟨rfl, by decide⟩) rfl ?_
    obtain ⟨a_4, ea_4, hf⟩ := x_bind hf
    refine sh_getR i217_15 f217_110 ea_4 ?_
    refine ev_do i217_18 rfl ?_
    obtain ⟨v_5, ev_5, hf⟩ := x_bind hf
    refine sh_aldI (tg := 13) i217_19 (Or.inl ⟨rfl, rfl⟩) ev_5 ?_
    refine sh_goto (t := 24) i217_20 rfl ?_
    exact j217_24_ok hd hf
end
section
def j218_24  (o0 : Option Nat) (x1 : Int32) (s0 : Int32) (h : xH) : Option (Int32 × xH) := some (s0, h)
theorem j218_24_ok {xs : List Int32} {d : Nat} (hd : 2 ≤ d) {o0 : Option Nat} {x1 : Int32} {s0 : Int32} {h : xH} {r : (Int32 × xH)} (hf : j218_24 o0 x1 s0 h = some r) : xEv (xTa xs) d 218 (24, [xrv o0, .int x1], [.int s0], h) (some (.int r.1), r.2) := by
  unfold j218_24 at hf
  obtain rfl := Option.some.inj hf
  exact sh_iret i218_24 m218 rfl rfl
def fn218 (o0 : Option Nat) (x1 : Int32) (h : xH) : Option (Int32 × xH) := (xgI h o0 11 59).bind fun v_1 => (fn141 x1 1 v_1 h).bind fun r_2 => (if r_2.1 = 0 then j218_24 o0 x1 (-1) r_2.2 else (xgR r_2.2 o0 11 58).bind fun a_4 => (xaI r_2.2 13 a_4 (x1 - 1)).bind fun v_5 => j218_24 o0 x1 v_5 r_2.2)
theorem fn218_call {xs : List Int32} {d : Nat} (hd : 3 ≤ d) {o0 : Option Nat} {x1 : Int32} {h : xH} {r : (Int32 × xH)} (hf : fn218 o0 x1 h = some r) : xCall (xTa xs) d 218 [xrv o0, .int x1] h (some (.int r.1), r.2) := by
  obtain ⟨d, rfl⟩ : ∃ d2, d = d2 + 1 := ⟨d - 1, by omega⟩
  replace hd : 2 ≤ d := by omega
  refine call_of2 (fl := [xrv o0, .int x1]) (Ls := [xrv o0, .int x1]) m218 (by simp [xfl, xrv_cat, xc_i, xc_j, xc_a, xc_f]) (Nat.le_of_ble_eq_true rfl) rfl ?_
  unfold fn218 at hf
  refine ev_do i218_0 rfl ?_
  refine ev_do i218_1 rfl ?_
  refine sh_aload (i' := 0) (n := 1) i218_2 (Or.inr ⟨rfl, by decide⟩) rfl ?_
  obtain ⟨v_1, ev_1, hf⟩ := x_bind hf
  refine sh_getI i218_3 f218_446 ev_1 ?_
  obtain ⟨r_2, er_2, hf⟩ := x_bind hf
  refine ev_sta (as := [.int v_1, .int 1, .int x1]) (z := (some (.int r_2.1), r_2.2)) i218_6 v218_154 (Or.inl rfl) m141 rfl (Nat.le_of_ble_eq_true rfl) (fn141_call (by omega) er_2) ?_
  refine ev_if (t := 23) i218_9 rfl (fun c_3 => ?_) (fun c_3 => ?_)
  · replace hf := x_pos (show r_2.1 = 0 from c_3) hf
    refine ev_do i218_23 rfl ?_
    exact j218_24_ok hd hf
  · replace hf := x_neg (show ¬ r_2.1 = 0 from c_3) hf
    refine sh_aload (i' := 0) (n := 1) i218_12 (Or.inr ⟨rfl, by decide⟩) rfl ?_
    obtain ⟨a_4, ea_4, hf⟩ := x_bind hf
    refine sh_getR i218_13 f218_113 ea_4 ?_
    refine ev_do i218_16 rfl ?_
    refine ev_do i218_17 rfl ?_
    refine ev_do i218_18 rfl ?_
    obtain ⟨v_5, ev_5, hf⟩ := x_bind hf
    refine sh_aldI (tg := 13) i218_19 (Or.inl ⟨rfl, rfl⟩) ev_5 ?_
    refine sh_goto (t := 24) i218_20 rfl ?_
    exact j218_24_ok hd hf
end
section
def fn219 (o0 : Option Nat) (x1 : Int32) (x2 : Int32) (h : xH) : Option xH := (xgR h o0 11 71).bind fun a_1 => (xgI h o0 11 73).bind fun v_2 => (xaS h 13 (fun x => x) a_1 v_2 x1).bind fun h_3 => (xgR h_3 o0 11 72).bind fun a_4 => (xgI h_3 o0 11 73).bind fun v_5 => (xaS h_3 13 (fun x => x) a_4 v_5 x2).bind fun h_6 => (xgI h_6 o0 11 73).bind fun v_7 => (xpF h_6 o0 11 73 .int (.int (v_7 + 1))).bind fun h_8 => some h_8
theorem fn219_call {xs : List Int32} {d : Nat} (hd : 2 ≤ d) {o0 : Option Nat} {x1 : Int32} {x2 : Int32} {h : xH} {r : xH} (hf : fn219 o0 x1 x2 h = some r) : xCall (xTa xs) d 219 [xrv o0, .int x1, .int x2] h (none, r) := by
  obtain ⟨d, rfl⟩ : ∃ d2, d = d2 + 1 := ⟨d - 1, by omega⟩
  replace hd : 1 ≤ d := by omega
  refine call_of2 (fl := [xrv o0, .int x1, .int x2]) (Ls := [xrv o0, .int x1, .int x2]) m219 (by simp [xfl, xrv_cat, xc_i, xc_j, xc_a, xc_f]) (Nat.le_of_ble_eq_true rfl) rfl ?_
  unfold fn219 at hf
  refine sh_aload (i' := 0) (n := 1) i219_0 (Or.inr ⟨rfl, by decide⟩) rfl ?_
  obtain ⟨a_1, ea_1, hf⟩ := x_bind hf
  refine sh_getR i219_1 f219_140 ea_1 ?_
  refine sh_aload (i' := 0) (n := 1) i219_4 (Or.inr ⟨rfl, by decide⟩) rfl ?_
  obtain ⟨v_2, ev_2, hf⟩ := x_bind hf
  refine sh_getI i219_5 f219_455 ev_2 ?_
  refine ev_do i219_8 rfl ?_
  obtain ⟨h_3, eh_3, hf⟩ := x_bind hf
  refine sh_ast (tg := 13) i219_9 (Or.inl ⟨rfl, rfl, rfl⟩) eh_3 ?_
  refine sh_aload (i' := 0) (n := 1) i219_10 (Or.inr ⟨rfl, by decide⟩) rfl ?_
  obtain ⟨a_4, ea_4, hf⟩ := x_bind hf
  refine sh_getR i219_11 f219_143 ea_4 ?_
  refine sh_aload (i' := 0) (n := 1) i219_14 (Or.inr ⟨rfl, by decide⟩) rfl ?_
  obtain ⟨v_5, ev_5, hf⟩ := x_bind hf
  refine sh_getI i219_15 f219_455 ev_5 ?_
  refine ev_do i219_18 rfl ?_
  obtain ⟨h_6, eh_6, hf⟩ := x_bind hf
  refine sh_ast (tg := 13) i219_19 (Or.inl ⟨rfl, rfl, rfl⟩) eh_6 ?_
  refine sh_aload (i' := 0) (n := 1) i219_20 (Or.inr ⟨rfl, by decide⟩) rfl ?_
  refine sh_dup i219_21 (xrv_cat (o0)) ?_
  obtain ⟨v_7, ev_7, hf⟩ := x_bind hf
  refine sh_getI i219_22 f219_455 ev_7 ?_
  refine ev_do i219_25 rfl ?_
  refine ev_do i219_26 rfl ?_
  obtain ⟨h_8, eh_8, hf⟩ := x_bind hf
  refine sh_put i219_27 f219_455 (by decide) rfl eh_8 ?_
  obtain rfl := Option.some.inj hf
  exact sh_vret i219_30 m219 rfl
end
section
def j221_112  (o0 : Option Nat) (x1 : Int32) (x2 : Int32) (x3 : Int32) (x4 : Int32) (x5 : Int32) (x6 : Int32) (x7 : Int32) (h : xH) : Option (Int32 × xH) := (if x6 &&& 1 = x6 then some (x6, h) else none)
theorem j221_112_ok {xs : List Int32} {d : Nat} (hd : 1 ≤ d) {o0 : Option Nat} {x1 : Int32} {x2 : Int32} {x3 : Int32} {x4 : Int32} {x5 : Int32} {x6 : Int32} {x7 : Int32} {h : xH} {r : (Int32 × xH)} (hf : j221_112 o0 x1 x2 x3 x4 x5 x6 x7 h = some r) : xEv (xTa xs) d 221 (112, [xrv o0, .int x1, .int x2, .int x3, .int x4, .int x5, .int x6, .int x7], [], h) (some (.int r.1), r.2) := by
  unfold j221_112 at hf
  refine ev_do i221_112 rfl ?_
  by_cases c_1 : x6 &&& 1 = x6
  · replace hf := x_pos c_1 hf
    obtain rfl := Option.some.inj hf
    exact sh_iret i221_114 m221 rfl (congrArg Value.int c_1)
  · replace hf := x_neg c_1 hf
    cases hf
def j221_104 (k45 : Option Nat → Int32 → Int32 → Int32 → Int32 → Int32 → Int32 → Int32 → xH → Option (Int32 × xH)) (o0 : Option Nat) (x1 : Int32) (x2 : Int32) (x3 : Int32) (x4 : Int32) (x5 : Int32) (x6 : Int32) (x7 : Int32) (s0 : Int32) (h : xH) : Option (Int32 × xH) := k45 o0 x1 x2 x3 x4 x5 s0 (x7 + 1) h
theorem j221_104_ok {xs : List Int32} {d : Nat} (hd : 1 ≤ d) {k45 : Option Nat → Int32 → Int32 → Int32 → Int32 → Int32 → Int32 → Int32 → xH → Option (Int32 × xH)} (hk45 : ∀ {o0 : Option Nat} {x1 : Int32} {x2 : Int32} {x3 : Int32} {x4 : Int32} {x5 : Int32} {x6 : Int32} {x7 : Int32} {h : xH} {r : (Int32 × xH)}, k45 o0 x1 x2 x3 x4 x5 x6 x7 h = some r → xEv (xTa xs) d 221 (45, [xrv o0, .int x1, .int x2, .int x3, .int x4, .int x5, .int x6, .int x7], [], h) (some (.int r.1), r.2)) {o0 : Option Nat} {x1 : Int32} {x2 : Int32} {x3 : Int32} {x4 : Int32} {x5 : Int32} {x6 : Int32} {x7 : Int32} {s0 : Int32} {h : xH} {r : (Int32 × xH)} (hf : j221_104 k45 o0 x1 x2 x3 x4 x5 x6 x7 s0 h = some r) : xEv (xTa xs) d 221 (104, [xrv o0, .int x1, .int x2, .int x3, .int x4, .int x5, .int x6, .int x7], [.int s0], h) (some (.int r.1), r.2) := by
  unfold j221_104 at hf
  refine sh_istore (i' := 6) (n := 2) i221_104 (Or.inl rfl) (xokst_of (Nat.le_of_ble_eq_true rfl) rfl) ?_
  refine sh_inc (i' := 7) i221_106 rfl (xokst_of (Nat.le_of_ble_eq_true rfl) rfl) rfl ?_
  refine sh_goto (t := 45) i221_109 rfl ?_
  exact hk45 hf
def l221_45  : Nat → Option Nat → Int32 → Int32 → Int32 → Int32 → Int32 → Int32 → Int32 → xH → Option (Int32 × xH)
  | 0 => fun _ _ _ _ _ _ _ _ _ => none
  | n + 1 => fun o0 x1 x2 x3 x4 x5 x6 x7 h => (xgR h o0 11 22).bind fun a_1 => (xaI h 13 a_1 x4).bind fun v_2 => (if v_2 ≤ x7 then j221_112 o0 x1 x2 x3 x4 x5 x6 x7 h else (if x6 = 0 then j221_112 o0 x1 x2 x3 x4 x5 x6 x7 h else (xgR h o0 11 10).bind fun a_5 => (xaI h 13 a_5 ((10 * x5) + x7)).bind fun v_6 => (xgR h o0 11 12).bind fun a_7 => (xgR h o0 11 21).bind fun a_8 => (xaI h 13 a_8 x4).bind fun v_9 => (xaI h 13 a_7 (((600 * x3) + v_9) + x7)).bind fun v_10 => (if v_6 = v_10 then j221_104 (l221_45 n) o0 x1 x2 x3 x4 x5 x6 x7 1 h else j221_104 (l221_45 n) o0 x1 x2 x3 x4 x5 x6 x7 0 h)))
theorem l221_45_ok {xs : List Int32} {d : Nat} (hd : 1 ≤ d) : ∀ (n : Nat) {o0 : Option Nat} {x1 : Int32} {x2 : Int32} {x3 : Int32} {x4 : Int32} {x5 : Int32} {x6 : Int32} {x7 : Int32} {h : xH} {r : (Int32 × xH)}, l221_45 n o0 x1 x2 x3 x4 x5 x6 x7 h = some r → xEv (xTa xs) d 221 (45, [xrv o0, .int x1, .int x2, .int x3, .int x4, .int x5, .int x6, .int x7], [], h) (some (.int r.1), r.2) := by
  intro n
  induction n with
  | zero => intros; rename_i hf; cases hf
  | succ n ih =>
    intro o0 x1 x2 x3 x4 x5 x6 x7 h r hf
    replace hf : ((xgR h o0 11 22).bind fun a_1 => (xaI h 13 a_1 x4).bind fun v_2 => (if v_2 ≤ x7 then j221_112 o0 x1 x2 x3 x4 x5 x6 x7 h else (if x6 = 0 then j221_112 o0 x1 x2 x3 x4 x5 x6 x7 h else (xgR h o0 11 10).bind fun a_5 => (xaI h 13 a_5 ((10 * x5) + x7)).bind fun v_6 => (xgR h o0 11 12).bind fun a_7 => (xgR h o0 11 21).bind fun a_8 => (xaI h 13 a_8 x4).bind fun v_9 => (xaI h 13 a_7 (((600 * x3) + v_9) + x7)).bind fun v_10 => (if v_6 = v_10 then j221_104 (l221_45 n) o0 x1 x2 x3 x4 x5 x6 x7 1 h else j221_104 (l221_45 n) o0 x1 x2 x3 x4 x5 x6 x7 0 h)))) = some r := hf
    refine ev_do i221_45 rfl ?_
    refine sh_aload (i' := 0) (n := 1) i221_47 (Or.inr ⟨rfl, by decide⟩) rfl ?_
    obtain ⟨a_1, ea_1, hf⟩ := x_bind hf
    refine sh_getR i221_48 f221_71 ea_1 ?_
    refine ev_do i221_51 rfl ?_
    obtain ⟨v_2, ev_2, hf⟩ := x_bind hf
    refine sh_aldI (tg := 13) i221_53 (Or.inl ⟨rfl, rfl⟩) ev_2 ?_
    refine ev_icmp (t := 112) i221_54 rfl (fun c_3 => ?_) (fun c_3 => ?_)
    · replace hf := x_pos (show v_2 ≤ x7 from c_3) hf
      exact j221_112_ok hd hf
    · replace hf := x_neg (show ¬ v_2 ≤ x7 from c_3) hf
      refine ev_do i221_57 rfl ?_
      refine ev_if (t := 112) i221_59 rfl (fun c_4 => ?_) (fun c_4 => ?_)
      · replace hf := x_pos (show x6 = 0 from c_4) hf
        exact j221_112_ok hd hf
      · replace hf := x_neg (show ¬ x6 = 0 from c_4) hf
        refine sh_aload (i' := 0) (n := 1) i221_62 (Or.inr ⟨rfl, by decide⟩) rfl ?_
        obtain ⟨a_5, ea_5, hf⟩ := x_bind hf
        refine sh_getR i221_63 f221_35 ea_5 ?_
        refine ev_do i221_66 rfl ?_
        refine ev_do i221_68 rfl ?_
        refine ev_do i221_70 rfl ?_
        refine ev_do i221_71 rfl ?_
        refine ev_do i221_73 rfl ?_
        obtain ⟨v_6, ev_6, hf⟩ := x_bind hf
        refine sh_aldI (tg := 13) i221_74 (Or.inl ⟨rfl, rfl⟩) ev_6 ?_
        refine sh_aload (i' := 0) (n := 1) i221_75 (Or.inr ⟨rfl, by decide⟩) rfl ?_
        obtain ⟨a_7, ea_7, hf⟩ := x_bind hf
        refine sh_getR i221_76 f221_41 ea_7 ?_
        refine ev_do i221_79 rfl ?_
        refine ev_do i221_82 rfl ?_
        refine ev_do i221_83 rfl ?_
        refine sh_aload (i' := 0) (n := 1) i221_84 (Or.inr ⟨rfl, by decide⟩) rfl ?_
        obtain ⟨a_8, ea_8, hf⟩ := x_bind hf
        refine sh_getR i221_85 f221_68 ea_8 ?_
        refine ev_do i221_88 rfl ?_
        obtain ⟨v_9, ev_9, hf⟩ := x_bind hf
        refine sh_aldI (tg := 13) i221_90 (Or.inl ⟨rfl, rfl⟩) ev_9 ?_
        refine ev_do i221_91 rfl ?_
        refine ev_do i221_92 rfl ?_
        refine ev_do i221_94 rfl ?_
        obtain ⟨v_10, ev_10, hf⟩ := x_bind hf
        refine sh_aldI (tg := 13) i221_95 (Or.inl ⟨rfl, rfl⟩) ev_10 ?_
        refine ev_icmp (t := 103) i221_96 rfl (fun c_11 => ?_) (fun c_11 => ?_)
        · replace hf := x_neg (show ¬ v_6 = v_10 from c_11) hf
          refine ev_do i221_103 rfl ?_
          exact j221_104_ok hd ih hf
        · replace hf := x_pos (show v_6 = v_10 from Decidable.byContradiction (fun h9 => c_11 h9)) hf
          refine ev_do i221_99 rfl ?_
          refine sh_goto (t := 104) i221_100 rfl ?_
          exact j221_104_ok hd ih hf
def j221_40  (o0 : Option Nat) (x1 : Int32) (x2 : Int32) (x3 : Int32) (x4 : Int32) (x5 : Int32) (s0 : Int32) (h : xH) : Option (Int32 × xH) := l221_45 xFuel o0 x1 x2 x3 x4 x5 s0 0 h
theorem j221_40_ok {xs : List Int32} {d : Nat} (hd : 1 ≤ d) {u6 : Value} {u7 : Value} {o0 : Option Nat} {x1 : Int32} {x2 : Int32} {x3 : Int32} {x4 : Int32} {x5 : Int32} {s0 : Int32} {h : xH} {r : (Int32 × xH)} (hu6 : u6.category = 1) (hu7 : u7.category = 1) (hf : j221_40 o0 x1 x2 x3 x4 x5 s0 h = some r) : xEv (xTa xs) d 221 (40, [xrv o0, .int x1, .int x2, .int x3, .int x4, .int x5, u6, u7], [.int s0], h) (some (.int r.1), r.2) := by
  unfold j221_40 at hf
  refine sh_istore (i' := 6) (n := 2) i221_40 (Or.inl rfl) (xokst_of (Nat.le_of_ble_eq_true rfl) rfl) ?_
  refine ev_do i221_42 rfl ?_
  refine sh_istore (i' := 7) (n := 2) i221_43 (Or.inl rfl) (xokst_of (Nat.le_of_ble_eq_true rfl) rfl) ?_
  exact l221_45_ok hd xFuel hf
def j221_39  (o0 : Option Nat) (x1 : Int32) (x2 : Int32) (x3 : Int32) (x4 : Int32) (x5 : Int32) (h : xH) : Option (Int32 × xH) := j221_40 o0 x1 x2 x3 x4 x5 0 h
theorem j221_39_ok {xs : List Int32} {d : Nat} (hd : 1 ≤ d) {u6 : Value} {u7 : Value} {o0 : Option Nat} {x1 : Int32} {x2 : Int32} {x3 : Int32} {x4 : Int32} {x5 : Int32} {h : xH} {r : (Int32 × xH)} (hu6 : u6.category = 1) (hu7 : u7.category = 1) (hf : j221_39 o0 x1 x2 x3 x4 x5 h = some r) : xEv (xTa xs) d 221 (39, [xrv o0, .int x1, .int x2, .int x3, .int x4, .int x5, u6, u7], [], h) (some (.int r.1), r.2) := by
  unfold j221_39 at hf
  refine ev_do i221_39 rfl ?_
  exact j221_40_ok hd hu6 hu7 hf
def fn221 (o0 : Option Nat) (x1 : Int32) (x2 : Int32) (x3 : Int32) (x4 : Int32) (h : xH) : Option (Int32 × xH) := (xgR h o0 11 16).bind fun a_1 => (xaI h 13 a_1 x4).bind fun v_2 => (if v_2 = 2 then (xgR h o0 11 22).bind fun a_4 => (xaI h 13 a_4 x4).bind fun v_5 => (xgR h o0 11 11).bind fun a_6 => (xaI h 13 a_6 ((4 * x1) + x2)).bind fun v_7 => (if v_5 = v_7 then j221_40 o0 x1 x2 x3 x4 ((4 * x1) + x2) 1 h else j221_39 o0 x1 x2 x3 x4 ((4 * x1) + x2) h) else j221_39 o0 x1 x2 x3 x4 ((4 * x1) + x2) h)
theorem fn221_call {xs : List Int32} {d : Nat} (hd : 2 ≤ d) {o0 : Option Nat} {x1 : Int32} {x2 : Int32} {x3 : Int32} {x4 : Int32} {h : xH} {r : (Int32 × xH)} (hf : fn221 o0 x1 x2 x3 x4 h = some r) : xCall (xTa xs) d 221 [xrv o0, .int x1, .int x2, .int x3, .int x4] h (some (.int r.1), r.2) := by
  obtain ⟨d, rfl⟩ : ∃ d2, d = d2 + 1 := ⟨d - 1, by omega⟩
  replace hd : 1 ≤ d := by omega
  refine call_of2 (fl := [xrv o0, .int x1, .int x2, .int x3, .int x4]) (Ls := [xrv o0, .int x1, .int x2, .int x3, .int x4, .float 0, .float 0, .float 0]) m221 (by simp [xfl, xrv_cat, xc_i, xc_j, xc_a, xc_f]) (Nat.le_of_ble_eq_true rfl) rfl ?_
  unfold fn221 at hf
  refine ev_do i221_0 rfl ?_
  refine ev_do i221_1 rfl ?_
  refine ev_do i221_2 rfl ?_
  refine ev_do i221_3 rfl ?_
  refine ev_do i221_4 rfl ?_
  refine sh_istore (i' := 5) (n := 2) i221_5 (Or.inl rfl) (xokst_of (Nat.le_of_ble_eq_true rfl) rfl) ?_
  refine sh_aload (i' := 0) (n := 1) i221_7 (Or.inr ⟨rfl, by decide⟩) rfl ?_
  obtain ⟨a_1, ea_1, hf⟩ := x_bind hf
  refine sh_getR i221_8 f221_53 ea_1 ?_
  refine ev_do i221_11 rfl ?_
  obtain ⟨v_2, ev_2, hf⟩ := x_bind hf
  refine sh_aldI (tg := 13) i221_13 (Or.inl ⟨rfl, rfl⟩) ev_2 ?_
  refine ev_do i221_14 rfl ?_
  refine ev_icmp (t := 39) i221_15 rfl (fun c_3 => ?_) (fun c_3 => ?_)
  · replace hf := x_neg (show ¬ v_2 = 2 from c_3) hf
    exact j221_39_ok hd rfl rfl hf
  · replace hf := x_pos (show v_2 = 2 from Decidable.byContradiction (fun h9 => c_3 h9)) hf
    refine sh_aload (i' := 0) (n := 1) i221_18 (Or.inr ⟨rfl, by decide⟩) rfl ?_
    obtain ⟨a_4, ea_4, hf⟩ := x_bind hf
    refine sh_getR i221_19 f221_71 ea_4 ?_
    refine ev_do i221_22 rfl ?_
    obtain ⟨v_5, ev_5, hf⟩ := x_bind hf
    refine sh_aldI (tg := 13) i221_24 (Or.inl ⟨rfl, rfl⟩) ev_5 ?_
    refine sh_aload (i' := 0) (n := 1) i221_25 (Or.inr ⟨rfl, by decide⟩) rfl ?_
    obtain ⟨a_6, ea_6, hf⟩ := x_bind hf
    refine sh_getR i221_26 f221_38 ea_6 ?_
    refine ev_do i221_29 rfl ?_
    obtain ⟨v_7, ev_7, hf⟩ := x_bind hf
    refine sh_aldI (tg := 13) i221_31 (Or.inl ⟨rfl, rfl⟩) ev_7 ?_
    refine ev_icmp (t := 39) i221_32 rfl (fun c_8 => ?_) (fun c_8 => ?_)
    · replace hf := x_neg (show ¬ v_5 = v_7 from c_8) hf
      exact j221_39_ok hd rfl rfl hf
    · replace hf := x_pos (show v_5 = v_7 from Decidable.byContradiction (fun h9 => c_8 h9)) hf
      refine ev_do i221_35 rfl ?_
      refine sh_goto (t := 40) i221_36 rfl ?_
      exact j221_40_ok hd rfl rfl hf
end
section
def j220_37 (k5 : Option Nat → Int32 → Int32 → Int32 → Int32 → xH → Option (Int32 × xH)) (o0 : Option Nat) (x1 : Int32) (x2 : Int32) (x3 : Int32) (x4 : Int32) (s0 : Int32) (h : xH) : Option (Int32 × xH) := k5 o0 x1 x2 s0 (x4 + 1) h
theorem j220_37_ok {xs : List Int32} {d : Nat} (hd : 2 ≤ d) {k5 : Option Nat → Int32 → Int32 → Int32 → Int32 → xH → Option (Int32 × xH)} (hk5 : ∀ {o0 : Option Nat} {x1 : Int32} {x2 : Int32} {x3 : Int32} {x4 : Int32} {h : xH} {r : (Int32 × xH)}, k5 o0 x1 x2 x3 x4 h = some r → xEv (xTa xs) d 220 (5, [xrv o0, .int x1, .int x2, .int x3, .int x4], [], h) (some (.int r.1), r.2)) {o0 : Option Nat} {x1 : Int32} {x2 : Int32} {x3 : Int32} {x4 : Int32} {s0 : Int32} {h : xH} {r : (Int32 × xH)} (hf : j220_37 k5 o0 x1 x2 x3 x4 s0 h = some r) : xEv (xTa xs) d 220 (37, [xrv o0, .int x1, .int x2, .int x3, .int x4], [.int s0], h) (some (.int r.1), r.2) := by
  unfold j220_37 at hf
  refine sh_istore (i' := 3) (n := 1) i220_37 (Or.inr ⟨rfl, by decide⟩) (xokst_of (Nat.le_of_ble_eq_true rfl) rfl) ?_
  refine sh_inc (i' := 4) i220_38 rfl (xokst_of (Nat.le_of_ble_eq_true rfl) rfl) rfl ?_
  refine sh_goto (t := 5) i220_41 rfl ?_
  exact hk5 hf
def j220_32 (k5 : Option Nat → Int32 → Int32 → Int32 → Int32 → xH → Option (Int32 × xH)) (o0 : Option Nat) (x1 : Int32) (x2 : Int32) (x3 : Int32) (x4 : Int32) (h : xH) : Option (Int32 × xH) := j220_37 k5 o0 x1 x2 x3 x4 1 h
theorem j220_32_ok {xs : List Int32} {d : Nat} (hd : 2 ≤ d) {k5 : Option Nat → Int32 → Int32 → Int32 → Int32 → xH → Option (Int32 × xH)} (hk5 : ∀ {o0 : Option Nat} {x1 : Int32} {x2 : Int32} {x3 : Int32} {x4 : Int32} {h : xH} {r : (Int32 × xH)}, k5 o0 x1 x2 x3 x4 h = some r → xEv (xTa xs) d 220 (5, [xrv o0, .int x1, .int x2, .int x3, .int x4], [], h) (some (.int r.1), r.2)) {o0 : Option Nat} {x1 : Int32} {x2 : Int32} {x3 : Int32} {x4 : Int32} {h : xH} {r : (Int32 × xH)} (hf : j220_32 k5 o0 x1 x2 x3 x4 h = some r) : xEv (xTa xs) d 220 (32, [xrv o0, .int x1, .int x2, .int x3, .int x4], [], h) (some (.int r.1), r.2) := by
  unfold j220_32 at hf
  refine ev_do i220_32 rfl ?_
  refine sh_goto (t := 37) i220_33 rfl ?_
  exact j220_37_ok hd hk5 hf
def l220_5  : Nat → Option Nat → Int32 → Int32 → Int32 → Int32 → xH → Option (Int32 × xH)
  | 0 => fun _ _ _ _ _ _ => none
  | n + 1 => fun o0 x1 x2 x3 x4 h => (xgR h o0 11 9).bind fun a_1 => (xaI h 13 a_1 x1).bind fun v_2 => (if v_2 ≤ x4 then (if x3 &&& 1 = x3 then some (x3, h) else none) else (if x3 = 0 then (xcv h o0 11).bind fun _ => (fn221 o0 x1 x4 x1 x2 h).bind fun r_6 => (if r_6.1 = 0 then j220_37 (l220_5 n) o0 x1 x2 x3 x4 0 r_6.2 else j220_32 (l220_5 n) o0 x1 x2 x3 x4 r_6.2) else j220_32 (l220_5 n) o0 x1 x2 x3 x4 h))
theorem l220_5_ok {xs : List Int32} {d : Nat} (hd : 2 ≤ d) : ∀ (n : Nat) {o0 : Option Nat} {x1 : Int32} {x2 : Int32} {x3 : Int32} {x4 : Int32} {h : xH} {r : (Int32 × xH)}, l220_5 n o0 x1 x2 x3 x4 h = some r → xEv (xTa xs) d 220 (5, [xrv o0, .int x1, .int x2, .int x3, .int x4], [], h) (some (.int r.1), r.2) := by
  intro n
  induction n with
  | zero => intros; rename_i hf; cases hf
  | succ n ih =>
    intro o0 x1 x2 x3 x4 h r hf
    replace hf : ((xgR h o0 11 9).bind fun a_1 => (xaI h 13 a_1 x1).bind fun v_2 => (if v_2 ≤ x4 then (if x3 &&& 1 = x3 then some (x3, h) else none) else (if x3 = 0 then (xcv h o0 11).bind fun _ => (fn221 o0 x1 x4 x1 x2 h).bind fun r_6 => (if r_6.1 = 0 then j220_37 (l220_5 n) o0 x1 x2 x3 x4 0 r_6.2 else j220_32 (l220_5 n) o0 x1 x2 x3 x4 r_6.2) else j220_32 (l220_5 n) o0 x1 x2 x3 x4 h))) = some r := hf
    refine ev_do i220_5 rfl ?_
    refine sh_aload (i' := 0) (n := 1) i220_7 (Or.inr ⟨rfl, by decide⟩) rfl ?_
    obtain ⟨a_1, ea_1, hf⟩ := x_bind hf
    refine sh_getR i220_8 f220_32 ea_1 ?_
    refine ev_do i220_11 rfl ?_
    obtain ⟨v_2, ev_2, hf⟩ := x_bind hf
    refine sh_aldI (tg := 13) i220_12 (Or.inl ⟨rfl, rfl⟩) ev_2 ?_
    refine ev_icmp (t := 44) i220_13 rfl (fun c_3 => ?_) (fun c_3 => ?_)
    · replace hf := x_pos (show v_2 ≤ x4 from c_3) hf
      refine ev_do i220_44 rfl ?_
      by_cases c_4 : x3 &&& 1 = x3
      · replace hf := x_pos c_4 hf
        obtain rfl := Option.some.inj hf
        exact sh_iret i220_45 m220 rfl (congrArg Value.int c_4)
      · replace hf := x_neg c_4 hf
        cases hf
    · replace hf := x_neg (show ¬ v_2 ≤ x4 from c_3) hf
      refine ev_do i220_16 rfl ?_
      refine ev_if (t := 32) i220_17 rfl (fun c_5 => ?_) (fun c_5 => ?_)
      · replace hf := x_neg (show ¬ x3 = 0 from c_5) hf
        exact j220_32_ok hd ih hf
      · replace hf := x_pos (show x3 = 0 from Decidable.byContradiction (fun h9 => c_5 h9)) hf
        refine sh_aload (i' := 0) (n := 1) i220_20 (Or.inr ⟨rfl, by decide⟩) rfl ?_
        refine ev_do i220_21 rfl ?_
        refine ev_do i220_22 rfl ?_
        refine ev_do i220_24 rfl ?_
        refine ev_do i220_25 rfl ?_
        obtain ⟨_, eu_8, hf⟩ := x_bind hf
        obtain ⟨r_6, er_6, hf⟩ := x_bind hf
        refine sh_inv (as := [.int x2, .int x1, .int x4, .int x1]) (z := (some (.int r_6.1), r_6.2)) i220_26 v220_458 (Or.inl ⟨by decide, rfl⟩) m221 rfl (Nat.le_of_ble_eq_true rfl) eu_8 (fn221_call (by omega) er_6) ?_
        refine ev_if (t := 36) i220_29 rfl (fun c_7 => ?_) (fun c_7 => ?_)
        · replace hf := x_pos (show r_6.1 = 0 from c_7) hf
          refine ev_do i220_36 rfl ?_
          exact j220_37_ok hd ih hf
        · replace hf := x_neg (show ¬ r_6.1 = 0 from c_7) hf
          exact j220_32_ok hd ih hf
def fn220 (o0 : Option Nat) (x1 : Int32) (x2 : Int32) (h : xH) : Option (Int32 × xH) := l220_5 xFuel o0 x1 x2 0 0 h
theorem fn220_call {xs : List Int32} {d : Nat} (hd : 3 ≤ d) {o0 : Option Nat} {x1 : Int32} {x2 : Int32} {h : xH} {r : (Int32 × xH)} (hf : fn220 o0 x1 x2 h = some r) : xCall (xTa xs) d 220 [xrv o0, .int x1, .int x2] h (some (.int r.1), r.2) := by
  obtain ⟨d, rfl⟩ : ∃ d2, d = d2 + 1 := ⟨d - 1, by omega⟩
  replace hd : 2 ≤ d := by omega
  refine call_of2 (fl := [xrv o0, .int x1, .int x2]) (Ls := [xrv o0, .int x1, .int x2, .float 0, .float 0]) m220 (by simp [xfl, xrv_cat, xc_i, xc_j, xc_a, xc_f]) (Nat.le_of_ble_eq_true rfl) rfl ?_
  unfold fn220 at hf
  refine ev_do i220_0 rfl ?_
  refine sh_istore (i' := 3) (n := 1) i220_1 (Or.inr ⟨rfl, by decide⟩) (xokst_of (Nat.le_of_ble_eq_true rfl) rfl) ?_
  refine ev_do i220_2 rfl ?_
  refine sh_istore (i' := 4) (n := 2) i220_3 (Or.inl rfl) (xokst_of (Nat.le_of_ble_eq_true rfl) rfl) ?_
  exact l220_5_ok hd xFuel hf
end
section
def j222_167 (k2 : Option Nat → Int32 → Int32 → xH → Option xH) (k84 : Option Nat → Int32 → Int32 → Int32 → Int32 → xH → Option xH) (o0 : Option Nat) (x1 : Int32) (x2 : Int32) (x3 : Int32) (x4 : Int32) (x5 : Int32) (h : xH) : Option xH := k84 o0 x1 x2 x3 (x4 + 1) h
theorem j222_167_ok {xs : List Int32} {d : Nat} (hd : 5 ≤ d) {k2 : Option Nat → Int32 → Int32 → xH → Option xH} {k84 : Option Nat → Int32 → Int32 → Int32 → Int32 → xH → Option xH} (hk2 : ∀ {u3 : Value} {u4 : Value} {u5 : Value} {o0 : Option Nat} {x1 : Int32} {x2 : Int32} {h : xH} {r : xH}, u3.category = 1 → u4.category = 1 → u5.category = 1 → k2 o0 x1 x2 h = some r → xEv (xTa xs) d 222 (2, [xrv o0, .int x1, .int x2, u3, u4, u5], [], h) (none, r)) (hk84 : ∀ {u5 : Value} {o0 : Option Nat} {x1 : Int32} {x2 : Int32} {x3 : Int32} {x4 : Int32} {h : xH} {r : xH}, u5.category = 1 → k84 o0 x1 x2 x3 x4 h = some r → xEv (xTa xs) d 222 (84, [xrv o0, .int x1, .int x2, .int x3, .int x4, u5], [], h) (none, r)) {o0 : Option Nat} {x1 : Int32} {x2 : Int32} {x3 : Int32} {x4 : Int32} {x5 : Int32} {h : xH} {r : xH} (hf : j222_167 k2 k84 o0 x1 x2 x3 x4 x5 h = some r) : xEv (xTa xs) d 222 (167, [xrv o0, .int x1, .int x2, .int x3, .int x4, .int x5], [], h) (none, r) := by
  unfold j222_167 at hf
  refine sh_inc (i' := 4) i222_167 rfl (xokst_of (Nat.le_of_ble_eq_true rfl) rfl) rfl ?_
  refine sh_goto (t := 84) i222_170 rfl ?_
  exact hk84 rfl hf
def l222_84 (k2 : Option Nat → Int32 → Int32 → xH → Option xH) : Nat → Option Nat → Int32 → Int32 → Int32 → Int32 → xH → Option xH
  | 0 => fun _ _ _ _ _ _ => none
  | n + 1 => fun o0 x1 x2 x3 x4 h => (xgR h o0 11 19).bind fun a_1 => (xaI h 13 a_1 x3).bind fun v_2 => (if v_2 ≤ x4 then k2 o0 x1 (x2 + 1) h else (xgR h o0 11 18).bind fun a_4 => (xaI h 13 a_4 x3).bind fun v_5 => (xgR h o0 11 24).bind fun a_6 => (xaI h 13 a_6 (((120 * x1) + v_5) + x4)).bind fun v_7 => (if v_7 = 2 then (xgR h o0 11 12).bind fun a_9 => (xgR h o0 11 29).bind fun a_10 => (xaI h 13 a_10 (((120 * x1) + v_5) + x4)).bind fun v_11 => (xgR h o0 11 30).bind fun a_12 => (xaI h 13 a_12 (((120 * x1) + v_5) + x4)).bind fun v_13 => (xcv h o0 11).bind fun _ => (fn164 o0 x1 a_9 ((600 * x1) + v_11) v_13 h).bind fun r_14 => (if r_14.1 = (-1) then (xgR r_14.2 o0 11 25).bind fun a_16 => (xaI r_14.2 13 a_16 (((120 * x1) + v_5) + x4)).bind fun v_17 => (xcv r_14.2 o0 11).bind fun _ => (fn219 o0 2 v_17 r_14.2).bind fun h_18 => j222_167 k2 (l222_84 k2 n) o0 x1 x2 x3 x4 (((120 * x1) + v_5) + x4) h_18 else j222_167 k2 (l222_84 k2 n) o0 x1 x2 x3 x4 (((120 * x1) + v_5) + x4) r_14.2) else j222_167 k2 (l222_84 k2 n) o0 x1 x2 x3 x4 (((120 * x1) + v_5) + x4) h))
theorem l222_84_ok {xs : List Int32} {d : Nat} (hd : 5 ≤ d) {k2 : Option Nat → Int32 → Int32 → xH → Option xH} (hk2 : ∀ {u3 : Value} {u4 : Value} {u5 : Value} {o0 : Option Nat} {x1 : Int32} {x2 : Int32} {h : xH} {r : xH}, u3.category = 1 → u4.category = 1 → u5.category = 1 → k2 o0 x1 x2 h = some r → xEv (xTa xs) d 222 (2, [xrv o0, .int x1, .int x2, u3, u4, u5], [], h) (none, r)) : ∀ (n : Nat) {u5 : Value} {o0 : Option Nat} {x1 : Int32} {x2 : Int32} {x3 : Int32} {x4 : Int32} {h : xH} {r : xH} (hu5 : u5.category = 1), l222_84 k2 n o0 x1 x2 x3 x4 h = some r → xEv (xTa xs) d 222 (84, [xrv o0, .int x1, .int x2, .int x3, .int x4, u5], [], h) (none, r) := by
  intro n
  induction n with
  | zero => intros; rename_i hf; cases hf
  | succ n ih =>
    intro u5 o0 x1 x2 x3 x4 h r hu5 hf
    replace hf : ((xgR h o0 11 19).bind fun a_1 => (xaI h 13 a_1 x3).bind fun v_2 => (if v_2 ≤ x4 then k2 o0 x1 (x2 + 1) h else (xgR h o0 11 18).bind fun a_4 => (xaI h 13 a_4 x3).bind fun v_5 => (xgR h o0 11 24).bind fun a_6 => (xaI h 13 a_6 (((120 * x1) + v_5) + x4)).bind fun v_7 => (if v_7 = 2 then (xgR h o0 11 12).bind fun a_9 => (xgR h o0 11 29).bind fun a_10 => (xaI h 13 a_10 (((120 * x1) + v_5) + x4)).bind fun v_11 => (xgR h o0 11 30).bind fun a_12 => (xaI h 13 a_12 (((120 * x1) + v_5) + x4)).bind fun v_13 => (xcv h o0 11).bind fun _ => (fn164 o0 x1 a_9 ((600 * x1) + v_11) v_13 h).bind fun r_14 => (if r_14.1 = (-1) then (xgR r_14.2 o0 11 25).bind fun a_16 => (xaI r_14.2 13 a_16 (((120 * x1) + v_5) + x4)).bind fun v_17 => (xcv r_14.2 o0 11).bind fun _ => (fn219 o0 2 v_17 r_14.2).bind fun h_18 => j222_167 k2 (l222_84 k2 n) o0 x1 x2 x3 x4 (((120 * x1) + v_5) + x4) h_18 else j222_167 k2 (l222_84 k2 n) o0 x1 x2 x3 x4 (((120 * x1) + v_5) + x4) r_14.2) else j222_167 k2 (l222_84 k2 n) o0 x1 x2 x3 x4 (((120 * x1) + v_5) + x4) h))) = some r := hf
    refine ev_do i222_84 rfl ?_
    refine sh_aload (i' := 0) (n := 1) i222_86 (Or.inr ⟨rfl, by decide⟩) rfl ?_
    obtain ⟨a_1, ea_1, hf⟩ := x_bind hf
    refine sh_getR i222_87 f222_62 ea_1 ?_
    refine ev_do i222_90 rfl ?_
    obtain ⟨v_2, ev_2, hf⟩ := x_bind hf
    refine sh_aldI (tg := 13) i222_91 (Or.inl ⟨rfl, rfl⟩) ev_2 ?_
    refine ev_icmp (t := 173) i222_92 rfl (fun c_3 => ?_) (fun c_3 => ?_)
    · replace hf := x_pos (show v_2 ≤ x4 from c_3) hf
      refine sh_inc (i' := 2) i222_173 rfl (xokst_of (Nat.le_of_ble_eq_true rfl) rfl) rfl ?_
      refine sh_goto (t := 2) i222_176 rfl ?_
      exact hk2 rfl rfl hu5 hf
    · replace hf := x_neg (show ¬ v_2 ≤ x4 from c_3) hf
      refine ev_do i222_95 rfl ?_
      refine ev_do i222_97 rfl ?_
      refine ev_do i222_98 rfl ?_
      refine sh_aload (i' := 0) (n := 1) i222_99 (Or.inr ⟨rfl, by decide⟩) rfl ?_
      obtain ⟨a_4, ea_4, hf⟩ := x_bind hf
      refine sh_getR i222_100 f222_59 ea_4 ?_
      refine ev_do i222_103 rfl ?_
      obtain ⟨v_5, ev_5, hf⟩ := x_bind hf
      refine sh_aldI (tg := 13) i222_104 (Or.inl ⟨rfl, rfl⟩) ev_5 ?_
      refine ev_do i222_105 rfl ?_
      refine ev_do i222_106 rfl ?_
      refine ev_do i222_108 rfl ?_
      refine sh_istore (i' := 5) (n := 2) i222_109 (Or.inl rfl) (xokst_of (Nat.le_of_ble_eq_true rfl) rfl) ?_
      refine sh_aload (i' := 0) (n := 1) i222_111 (Or.inr ⟨rfl, by decide⟩) rfl ?_
      obtain ⟨a_6, ea_6, hf⟩ := x_bind hf
      refine sh_getR i222_112 f222_77 ea_6 ?_
      refine ev_do i222_115 rfl ?_
      obtain ⟨v_7, ev_7, hf⟩ := x_bind hf
      refine sh_aldI (tg := 13) i222_117 (Or.inl ⟨rfl, rfl⟩) ev_7 ?_
      refine ev_do i222_118 rfl ?_
      refine ev_icmp (t := 167) i222_119 rfl (fun c_8 => ?_) (fun c_8 => ?_)
      · replace hf := x_neg (show ¬ v_7 = 2 from c_8) hf
        exact j222_167_ok hd hk2 ih hf
      · replace hf := x_pos (show v_7 = 2 from Decidable.byContradiction (fun h9 => c_8 h9)) hf
        refine sh_aload (i' := 0) (n := 1) i222_122 (Or.inr ⟨rfl, by decide⟩) rfl ?_
        refine ev_do i222_123 rfl ?_
        refine sh_aload (i' := 0) (n := 1) i222_124 (Or.inr ⟨rfl, by decide⟩) rfl ?_
        obtain ⟨a_9, ea_9, hf⟩ := x_bind hf
        refine sh_getR i222_125 f222_41 ea_9 ?_
        refine ev_do i222_128 rfl ?_
        refine ev_do i222_131 rfl ?_
        refine ev_do i222_132 rfl ?_
        refine sh_aload (i' := 0) (n := 1) i222_133 (Or.inr ⟨rfl, by decide⟩) rfl ?_
        obtain ⟨a_10, ea_10, hf⟩ := x_bind hf
        refine sh_getR i222_134 f222_92 ea_10 ?_
        refine ev_do i222_137 rfl ?_
        obtain ⟨v_11, ev_11, hf⟩ := x_bind hf
        refine sh_aldI (tg := 13) i222_139 (Or.inl ⟨rfl, rfl⟩) ev_11 ?_
        refine ev_do i222_140 rfl ?_
        refine sh_aload (i' := 0) (n := 1) i222_141 (Or.inr ⟨rfl, by decide⟩) rfl ?_
        obtain ⟨a_12, ea_12, hf⟩ := x_bind hf
        refine sh_getR i222_142 f222_95 ea_12 ?_
        refine ev_do i222_145 rfl ?_
        obtain ⟨v_13, ev_13, hf⟩ := x_bind hf
        refine sh_aldI (tg := 13) i222_147 (Or.inl ⟨rfl, rfl⟩) ev_13 ?_
        obtain ⟨_, eu_20, hf⟩ := x_bind hf
        obtain ⟨r_14, er_14, hf⟩ := x_bind hf
        refine sh_inv (as := [.int v_13, .int ((600 * x1) + v_11), xrv a_9, .int x1]) (z := (some (.int r_14.1), r_14.2)) i222_148 v222_215 (Or.inl ⟨by decide, rfl⟩) m164 rfl (Nat.le_of_ble_eq_true rfl) eu_20 (fn164_call (by omega) er_14) ?_
        refine ev_do i222_151 rfl ?_
        refine ev_icmp (t := 167) i222_152 rfl (fun c_15 => ?_) (fun c_15 => ?_)
        · replace hf := x_neg (show ¬ r_14.1 = (-1) from c_15) hf
          exact j222_167_ok hd hk2 ih hf
        · replace hf := x_pos (show r_14.1 = (-1) from Decidable.byContradiction (fun h9 => c_15 h9)) hf
          refine sh_aload (i' := 0) (n := 1) i222_155 (Or.inr ⟨rfl, by decide⟩) rfl ?_
          refine ev_do i222_156 rfl ?_
          refine sh_aload (i' := 0) (n := 1) i222_157 (Or.inr ⟨rfl, by decide⟩) rfl ?_
          obtain ⟨a_16, ea_16, hf⟩ := x_bind hf
          refine sh_getR i222_158 f222_80 ea_16 ?_
          refine ev_do i222_161 rfl ?_
          obtain ⟨v_17, ev_17, hf⟩ := x_bind hf
          refine sh_aldI (tg := 13) i222_163 (Or.inl ⟨rfl, rfl⟩) ev_17 ?_
          obtain ⟨_, eu_19, hf⟩ := x_bind hf
          obtain ⟨h_18, eh_18, hf⟩ := x_bind hf
          refine sh_inv (as := [.int v_17, .int 2]) (z := (none, h_18)) i222_164 v222_462 (Or.inl ⟨by decide, rfl⟩) m219 rfl (Nat.le_of_ble_eq_true rfl) eu_19 (fn219_call (by omega) eh_18) ?_
          exact j222_167_ok hd hk2 ih hf
def j222_81 (k2 : Option Nat → Int32 → Int32 → xH → Option xH) (o0 : Option Nat) (x1 : Int32) (x2 : Int32) (x3 : Int32) (h : xH) : Option xH := l222_84 k2 xFuel o0 x1 x2 x3 0 h
theorem j222_81_ok {xs : List Int32} {d : Nat} (hd : 5 ≤ d) {k2 : Option Nat → Int32 → Int32 → xH → Option xH} (hk2 : ∀ {u3 : Value} {u4 : Value} {u5 : Value} {o0 : Option Nat} {x1 : Int32} {x2 : Int32} {h : xH} {r : xH}, u3.category = 1 → u4.category = 1 → u5.category = 1 → k2 o0 x1 x2 h = some r → xEv (xTa xs) d 222 (2, [xrv o0, .int x1, .int x2, u3, u4, u5], [], h) (none, r)) {u4 : Value} {u5 : Value} {o0 : Option Nat} {x1 : Int32} {x2 : Int32} {x3 : Int32} {h : xH} {r : xH} (hu4 : u4.category = 1) (hu5 : u5.category = 1) (hf : j222_81 k2 o0 x1 x2 x3 h = some r) : xEv (xTa xs) d 222 (81, [xrv o0, .int x1, .int x2, .int x3, u4, u5], [], h) (none, r) := by
  unfold j222_81 at hf
  refine ev_do i222_81 rfl ?_
  refine sh_istore (i' := 4) (n := 2) i222_82 (Or.inl rfl) (xokst_of (Nat.le_of_ble_eq_true rfl) rfl) ?_
  exact l222_84_ok hd hk2 xFuel hu5 hf
def j222_39 (k2 : Option Nat → Int32 → Int32 → xH → Option xH) (o0 : Option Nat) (x1 : Int32) (x2 : Int32) (x3 : Int32) (h : xH) : Option xH := (xgR h o0 11 12).bind fun a_1 => (xgR h o0 11 21).bind fun a_2 => (xaI h 13 a_2 x3).bind fun v_3 => (xgR h o0 11 22).bind fun a_4 => (xaI h 13 a_4 x3).bind fun v_5 => (xcv h o0 11).bind fun _ => (fn164 o0 x1 a_1 ((600 * x1) + v_3) v_5 h).bind fun r_6 => (if r_6.1 = (-1) then (xgR r_6.2 o0 11 20).bind fun a_8 => (xaI r_6.2 13 a_8 x3).bind fun v_9 => (xcv r_6.2 o0 11).bind fun _ => (fn219 o0 2 v_9 r_6.2).bind fun h_10 => j222_81 k2 o0 x1 x2 x3 h_10 else j222_81 k2 o0 x1 x2 x3 r_6.2)
theorem j222_39_ok {xs : List Int32} {d : Nat} (hd : 5 ≤ d) {k2 : Option Nat → Int32 → Int32 → xH → Option xH} (hk2 : ∀ {u3 : Value} {u4 : Value} {u5 : Value} {o0 : Option Nat} {x1 : Int32} {x2 : Int32} {h : xH} {r : xH}, u3.category = 1 → u4.category = 1 → u5.category = 1 → k2 o0 x1 x2 h = some r → xEv (xTa xs) d 222 (2, [xrv o0, .int x1, .int x2, u3, u4, u5], [], h) (none, r)) {u4 : Value} {u5 : Value} {o0 : Option Nat} {x1 : Int32} {x2 : Int32} {x3 : Int32} {h : xH} {r : xH} (hu4 : u4.category = 1) (hu5 : u5.category = 1) (hf : j222_39 k2 o0 x1 x2 x3 h = some r) : xEv (xTa xs) d 222 (39, [xrv o0, .int x1, .int x2, .int x3, u4, u5], [], h) (none, r) := by
  unfold j222_39 at hf
  refine sh_aload (i' := 0) (n := 1) i222_39 (Or.inr ⟨rfl, by decide⟩) rfl ?_
  refine ev_do i222_40 rfl ?_
  refine sh_aload (i' := 0) (n := 1) i222_41 (Or.inr ⟨rfl, by decide⟩) rfl ?_
  obtain ⟨a_1, ea_1, hf⟩ := x_bind hf
  refine sh_getR i222_42 f222_41 ea_1 ?_
  refine ev_do i222_45 rfl ?_
  refine ev_do i222_48 rfl ?_
  refine ev_do i222_49 rfl ?_
  refine sh_aload (i' := 0) (n := 1) i222_50 (Or.inr ⟨rfl, by decide⟩) rfl ?_
  obtain ⟨a_2, ea_2, hf⟩ := x_bind hf
  refine sh_getR i222_51 f222_68 ea_2 ?_
  refine ev_do i222_54 rfl ?_
  obtain ⟨v_3, ev_3, hf⟩ := x_bind hf
  refine sh_aldI (tg := 13) i222_55 (Or.inl ⟨rfl, rfl⟩) ev_3 ?_
  refine ev_do i222_56 rfl ?_
  refine sh_aload (i' := 0) (n := 1) i222_57 (Or.inr ⟨rfl, by decide⟩) rfl ?_
  obtain ⟨a_4, ea_4, hf⟩ := x_bind hf
  refine sh_getR i222_58 f222_71 ea_4 ?_
  refine ev_do i222_61 rfl ?_
  obtain ⟨v_5, ev_5, hf⟩ := x_bind hf
  refine sh_aldI (tg := 13) i222_62 (Or.inl ⟨rfl, rfl⟩) ev_5 ?_
  obtain ⟨_, eu_12, hf⟩ := x_bind hf
  obtain ⟨r_6, er_6, hf⟩ := x_bind hf
  refine sh_inv (as := [.int v_5, .int ((600 * x1) + v_3), xrv a_1, .int x1]) (z := (some (.int r_6.1), r_6.2)) i222_63 v222_215 (Or.inl ⟨by decide, rfl⟩) m164 rfl (Nat.le_of_ble_eq_true rfl) eu_12 (fn164_call (by omega) er_6) ?_
  refine ev_do i222_66 rfl ?_
  refine ev_icmp (t := 81) i222_67 rfl (fun c_7 => ?_) (fun c_7 => ?_)
  · replace hf := x_neg (show ¬ r_6.1 = (-1) from c_7) hf
    exact j222_81_ok hd hk2 hu4 hu5 hf
  · replace hf := x_pos (show r_6.1 = (-1) from Decidable.byContradiction (fun h9 => c_7 h9)) hf
    refine sh_aload (i' := 0) (n := 1) i222_70 (Or.inr ⟨rfl, by decide⟩) rfl ?_
    refine ev_do i222_71 rfl ?_
    refine sh_aload (i' := 0) (n := 1) i222_72 (Or.inr ⟨rfl, by decide⟩) rfl ?_
    obtain ⟨a_8, ea_8, hf⟩ := x_bind hf
    refine sh_getR i222_73 f222_65 ea_8 ?_
    refine ev_do i222_76 rfl ?_
    obtain ⟨v_9, ev_9, hf⟩ := x_bind hf
    refine sh_aldI (tg := 13) i222_77 (Or.inl ⟨rfl, rfl⟩) ev_9 ?_
    obtain ⟨_, eu_11, hf⟩ := x_bind hf
    obtain ⟨h_10, eh_10, hf⟩ := x_bind hf
    refine sh_inv (as := [.int v_9, .int 2]) (z := (none, h_10)) i222_78 v222_462 (Or.inl ⟨by decide, rfl⟩) m219 rfl (Nat.le_of_ble_eq_true rfl) eu_11 (fn219_call (by omega) eh_10) ?_
    exact j222_81_ok hd hk2 hu4 hu5 hf
def l222_2  : Nat → Option Nat → Int32 → Int32 → xH → Option xH
  | 0 => fun _ _ _ _ => none
  | n + 1 => fun o0 x1 x2 h => (xgR h o0 11 14).bind fun a_1 => (xaI h 13 a_1 x1).bind fun v_2 => (if v_2 ≤ x2 then some h else (xgR h o0 11 16).bind fun a_4 => (xaI h 13 a_4 ((24 * x1) + x2)).bind fun v_5 => (if v_5 = 4 then j222_39 (l222_2 n) o0 x1 x2 ((24 * x1) + x2) h else (xgR h o0 11 16).bind fun a_7 => (xaI h 13 a_7 ((24 * x1) + x2)).bind fun v_8 => (if v_8 = 5 then j222_39 (l222_2 n) o0 x1 x2 ((24 * x1) + x2) h else j222_81 (l222_2 n) o0 x1 x2 ((24 * x1) + x2) h)))
theorem l222_2_ok {xs : List Int32} {d : Nat} (hd : 5 ≤ d) : ∀ (n : Nat) {u3 : Value} {u4 : Value} {u5 : Value} {o0 : Option Nat} {x1 : Int32} {x2 : Int32} {h : xH} {r : xH} (hu3 : u3.category = 1) (hu4 : u4.category = 1) (hu5 : u5.category = 1), l222_2 n o0 x1 x2 h = some r → xEv (xTa xs) d 222 (2, [xrv o0, .int x1, .int x2, u3, u4, u5], [], h) (none, r) := by
  intro n
  induction n with
  | zero => intros; rename_i hf; cases hf
  | succ n ih =>
    intro u3 u4 u5 o0 x1 x2 h r hu3 hu4 hu5 hf
    replace hf : ((xgR h o0 11 14).bind fun a_1 => (xaI h 13 a_1 x1).bind fun v_2 => (if v_2 ≤ x2 then some h else (xgR h o0 11 16).bind fun a_4 => (xaI h 13 a_4 ((24 * x1) + x2)).bind fun v_5 => (if v_5 = 4 then j222_39 (l222_2 n) o0 x1 x2 ((24 * x1) + x2) h else (xgR h o0 11 16).bind fun a_7 => (xaI h 13 a_7 ((24 * x1) + x2)).bind fun v_8 => (if v_8 = 5 then j222_39 (l222_2 n) o0 x1 x2 ((24 * x1) + x2) h else j222_81 (l222_2 n) o0 x1 x2 ((24 * x1) + x2) h)))) = some r := hf
    refine ev_do i222_2 rfl ?_
    refine sh_aload (i' := 0) (n := 1) i222_3 (Or.inr ⟨rfl, by decide⟩) rfl ?_
    obtain ⟨a_1, ea_1, hf⟩ := x_bind hf
    refine sh_getR i222_4 f222_47 ea_1 ?_
    refine ev_do i222_7 rfl ?_
    obtain ⟨v_2, ev_2, hf⟩ := x_bind hf
    refine sh_aldI (tg := 13) i222_8 (Or.inl ⟨rfl, rfl⟩) ev_2 ?_
    refine ev_icmp (t := 179) i222_9 rfl (fun c_3 => ?_) (fun c_3 => ?_)
    · replace hf := x_pos (show v_2 ≤ x2 from c_3) hf
      obtain rfl := Option.some.inj hf
      exact sh_vret i222_179 m222 rfl
    · replace hf := x_neg (show ¬ v_2 ≤ x2 from c_3) hf
      refine ev_do i222_12 rfl ?_
      refine ev_do i222_14 rfl ?_
      refine ev_do i222_15 rfl ?_
      refine ev_do i222_16 rfl ?_
      refine ev_do i222_17 rfl ?_
      refine sh_istore (i' := 3) (n := 1) i222_18 (Or.inr ⟨rfl, by decide⟩) (xokst_of (Nat.le_of_ble_eq_true rfl) rfl) ?_
      refine sh_aload (i' := 0) (n := 1) i222_19 (Or.inr ⟨rfl, by decide⟩) rfl ?_
      obtain ⟨a_4, ea_4, hf⟩ := x_bind hf
      refine sh_getR i222_20 f222_53 ea_4 ?_
      refine ev_do i222_23 rfl ?_
      obtain ⟨v_5, ev_5, hf⟩ := x_bind hf
      refine sh_aldI (tg := 13) i222_24 (Or.inl ⟨rfl, rfl⟩) ev_5 ?_
      refine ev_do i222_25 rfl ?_
      refine ev_icmp (t := 39) i222_26 rfl (fun c_6 => ?_) (fun c_6 => ?_)
      · replace hf := x_pos (show v_5 = 4 from c_6) hf
        exact j222_39_ok hd ih hu4 hu5 hf
      · replace hf := x_neg (show ¬ v_5 = 4 from c_6) hf
        refine sh_aload (i' := 0) (n := 1) i222_29 (Or.inr ⟨rfl, by decide⟩) rfl ?_
        obtain ⟨a_7, ea_7, hf⟩ := x_bind hf
        refine sh_getR i222_30 f222_53 ea_7 ?_
        refine ev_do i222_33 rfl ?_
        obtain ⟨v_8, ev_8, hf⟩ := x_bind hf
        refine sh_aldI (tg := 13) i222_34 (Or.inl ⟨rfl, rfl⟩) ev_8 ?_
        refine ev_do i222_35 rfl ?_
        refine ev_icmp (t := 81) i222_36 rfl (fun c_9 => ?_) (fun c_9 => ?_)
        · replace hf := x_neg (show ¬ v_8 = 5 from c_9) hf
          exact j222_81_ok hd ih hu4 hu5 hf
        · replace hf := x_pos (show v_8 = 5 from Decidable.byContradiction (fun h9 => c_9 h9)) hf
          exact j222_39_ok hd ih hu4 hu5 hf
def fn222 (o0 : Option Nat) (x1 : Int32) (h : xH) : Option xH := l222_2 xFuel o0 x1 0 h
theorem fn222_call {xs : List Int32} {d : Nat} (hd : 6 ≤ d) {o0 : Option Nat} {x1 : Int32} {h : xH} {r : xH} (hf : fn222 o0 x1 h = some r) : xCall (xTa xs) d 222 [xrv o0, .int x1] h (none, r) := by
  obtain ⟨d, rfl⟩ : ∃ d2, d = d2 + 1 := ⟨d - 1, by omega⟩
  replace hd : 5 ≤ d := by omega
  refine call_of2 (fl := [xrv o0, .int x1]) (Ls := [xrv o0, .int x1, .float 0, .float 0, .float 0, .float 0]) m222 (by simp [xfl, xrv_cat, xc_i, xc_j, xc_a, xc_f]) (Nat.le_of_ble_eq_true rfl) rfl ?_
  unfold fn222 at hf
  refine ev_do i222_0 rfl ?_
  refine sh_istore (i' := 2) (n := 1) i222_1 (Or.inr ⟨rfl, by decide⟩) (xokst_of (Nat.le_of_ble_eq_true rfl) rfl) ?_
  exact l222_2_ok hd xFuel rfl rfl rfl hf
end
section
def j223_76 (k6 : Option Nat → Int32 → Int32 → Int32 → Int32 → Int32 → xH → Option (Int32 × xH)) (k15 : Option Nat → Int32 → Int32 → Int32 → Int32 → Int32 → Int32 → xH → Option (Int32 × xH)) (o0 : Option Nat) (x1 : Int32) (x2 : Int32) (x3 : Int32) (x4 : Int32) (x5 : Int32) (x6 : Int32) (x7 : Int32) (s0 : Int32) (h : xH) : Option (Int32 × xH) := k15 o0 x1 x2 x3 s0 x5 (x6 + 1) h
theorem j223_76_ok {xs : List Int32} {d : Nat} (hd : 4 ≤ d) {k6 : Option Nat → Int32 → Int32 → Int32 → Int32 → Int32 → xH → Option (Int32 × xH)} {k15 : Option Nat → Int32 → Int32 → Int32 → Int32 → Int32 → Int32 → xH → Option (Int32 × xH)} (hk6 : ∀ {u6 : Value} {u7 : Value} {o0 : Option Nat} {x1 : Int32} {x2 : Int32} {x3 : Int32} {x4 : Int32} {x5 : Int32} {h : xH} {r : (Int32 × xH)}, u6.category = 1 → u7.category = 1 → k6 o0 x1 x2 x3 x4 x5 h = some r → xEv (xTa xs) d 223 (6, [xrv o0, .int x1, .int x2, .int x3, .int x4, .int x5, u6, u7], [], h) (some (.int r.1), r.2)) (hk15 : ∀ {u7 : Value} {o0 : Option Nat} {x1 : Int32} {x2 : Int32} {x3 : Int32} {x4 : Int32} {x5 : Int32} {x6 : Int32} {h : xH} {r : (Int32 × xH)}, u7.category = 1 → k15 o0 x1 x2 x3 x4 x5 x6 h = some r → xEv (xTa xs) d 223 (15, [xrv o0, .int x1, .int x2, .int x3, .int x4, .int x5, .int x6, u7], [], h) (some (.int r.1), r.2)) {o0 : Option Nat} {x1 : Int32} {x2 : Int32} {x3 : Int32} {x4 : Int32} {x5 : Int32} {x6 : Int32} {x7 : Int32} {s0 : Int32} {h : xH} {r : (Int32 × xH)} (hf : j223_76 k6 k15 o0 x1 x2 x3 x4 x5 x6 x7 s0 h = some r) : xEv (xTa xs) d 223 (76, [xrv o0, .int x1, .int x2, .int x3, .int x4, .int x5, .int x6, .int x7], [.int s0], h) (some (.int r.1), r.2) := by
  unfold j223_76 at hf
  refine sh_istore (i' := 4) (n := 2) i223_76 (Or.inl rfl) (xokst_of (Nat.le_of_ble_eq_true rfl) rfl) ?_
  refine sh_inc (i' := 6) i223_78 rfl (xokst_of (Nat.le_of_ble_eq_true rfl) rfl) rfl ?_
  refine sh_goto (t := 15) i223_81 rfl ?_
  exact hk15 rfl hf
def j223_75 (k6 : Option Nat → Int32 → Int32 → Int32 → Int32 → Int32 → xH → Option (Int32 × xH)) (k15 : Option Nat → Int32 → Int32 → Int32 → Int32 → Int32 → Int32 → xH → Option (Int32 × xH)) (o0 : Option Nat) (x1 : Int32) (x2 : Int32) (x3 : Int32) (x4 : Int32) (x5 : Int32) (x6 : Int32) (x7 : Int32) (h : xH) : Option (Int32 × xH) := j223_76 k6 k15 o0 x1 x2 x3 x4 x5 x6 x7 0 h
theorem j223_75_ok {xs : List Int32} {d : Nat} (hd : 4 ≤ d) {k6 : Option Nat → Int32 → Int32 → Int32 → Int32 → Int32 → xH → Option (Int32 × xH)} {k15 : Option Nat → Int32 → Int32 → Int32 → Int32 → Int32 → Int32 → xH → Option (Int32 × xH)} (hk6 : ∀ {u6 : Value} {u7 : Value} {o0 : Option Nat} {x1 : Int32} {x2 : Int32} {x3 : Int32} {x4 : Int32} {x5 : Int32} {h : xH} {r : (Int32 × xH)}, u6.category = 1 → u7.category = 1 → k6 o0 x1 x2 x3 x4 x5 h = some r → xEv (xTa xs) d 223 (6, [xrv o0, .int x1, .int x2, .int x3, .int x4, .int x5, u6, u7], [], h) (some (.int r.1), r.2)) (hk15 : ∀ {u7 : Value} {o0 : Option Nat} {x1 : Int32} {x2 : Int32} {x3 : Int32} {x4 : Int32} {x5 : Int32} {x6 : Int32} {h : xH} {r : (Int32 × xH)}, u7.category = 1 → k15 o0 x1 x2 x3 x4 x5 x6 h = some r → xEv (xTa xs) d 223 (15, [xrv o0, .int x1, .int x2, .int x3, .int x4, .int x5, .int x6, u7], [], h) (some (.int r.1), r.2)) {o0 : Option Nat} {x1 : Int32} {x2 : Int32} {x3 : Int32} {x4 : Int32} {x5 : Int32} {x6 : Int32} {x7 : Int32} {h : xH} {r : (Int32 × xH)} (hf : j223_75 k6 k15 o0 x1 x2 x3 x4 x5 x6 x7 h = some r) : xEv (xTa xs) d 223 (75, [xrv o0, .int x1, .int x2, .int x3, .int x4, .int x5, .int x6, .int x7], [], h) (some (.int r.1), r.2) := by
  unfold j223_75 at hf
  refine ev_do i223_75 rfl ?_
  exact j223_76_ok hd hk6 hk15 hf
def j223_71 (k6 : Option Nat → Int32 → Int32 → Int32 → Int32 → Int32 → xH → Option (Int32 × xH)) (k15 : Option Nat → Int32 → Int32 → Int32 → Int32 → Int32 → Int32 → xH → Option (Int32 × xH)) (o0 : Option Nat) (x1 : Int32) (x2 : Int32) (x3 : Int32) (x4 : Int32) (x5 : Int32) (x6 : Int32) (x7 : Int32) (h : xH) : Option (Int32 × xH) := j223_76 k6 k15 o0 x1 x2 x3 x4 x5 x6 x7 1 h
theorem j223_71_ok {xs : List Int32} {d : Nat} (hd : 4 ≤ d) {k6 : Option Nat → Int32 → Int32 → Int32 → Int32 → Int32 → xH → Option (Int32 × xH)} {k15 : Option Nat → Int32 → Int32 → Int32 → Int32 → Int32 → Int32 → xH → Option (Int32 × xH)} (hk6 : ∀ {u6 : Value} {u7 : Value} {o0 : Option Nat} {x1 : Int32} {x2 : Int32} {x3 : Int32} {x4 : Int32} {x5 : Int32} {h : xH} {r : (Int32 × xH)}, u6.category = 1 → u7.category = 1 → k6 o0 x1 x2 x3 x4 x5 h = some r → xEv (xTa xs) d 223 (6, [xrv o0, .int x1, .int x2, .int x3, .int x4, .int x5, u6, u7], [], h) (some (.int r.1), r.2)) (hk15 : ∀ {u7 : Value} {o0 : Option Nat} {x1 : Int32} {x2 : Int32} {x3 : Int32} {x4 : Int32} {x5 : Int32} {x6 : Int32} {h : xH} {r : (Int32 × xH)}, u7.category = 1 → k15 o0 x1 x2 x3 x4 x5 x6 h = some r → xEv (xTa xs) d 223 (15, [xrv o0, .int x1, .int x2, .int x3, .int x4, .int x5, .int x6, u7], [], h) (some (.int r.1), r.2)) {o0 : Option Nat} {x1 : Int32} {x2 : Int32} {x3 : Int32} {x4 : Int32} {x5 : Int32} {x6 : Int32} {x7 : Int32} {h : xH} {r : (Int32 × xH)} (hf : j223_71 k6 k15 o0 x1 x2 x3 x4 x5 x6 x7 h = some r) : xEv (xTa xs) d 223 (71, [xrv o0, .int x1, .int x2, .int x3, .int x4, .int x5, .int x6, .int x7], [], h) (some (.int r.1), r.2) := by
  unfold j223_71 at hf
  refine ev_do i223_71 rfl ?_
  refine sh_goto (t := 76) i223_72 rfl ?_
  exact j223_76_ok hd hk6 hk15 hf
def l223_15 (k6 : Option Nat → Int32 → Int32 → Int32 → Int32 → Int32 → xH → Option (Int32 × xH)) : Nat → Option Nat → Int32 → Int32 → Int32 → Int32 → Int32 → Int32 → xH → Option (Int32 × xH)
  | 0 => fun _ _ _ _ _ _ _ _ => none
  | n + 1 => fun o0 x1 x2 x3 x4 x5 x6 h => (xgR h o0 11 14).bind fun a_1 => (xaI h 13 a_1 x5).bind fun v_2 => (if v_2 ≤ x6 then (xcv h o0 11).bind fun _ => (fn156 o0 x5 h).bind fun r_4 => k6 o0 x1 x2 x3 x4 r_4.1 r_4.2 else (if x4 = 0 then (xgR h o0 11 16).bind fun a_7 => (xaI h 13 a_7 ((24 * x5) + x6)).bind fun v_8 => (if v_8 = x2 then (if x2 = 3 then j223_71 k6 (l223_15 k6 n) o0 x1 x2 x3 x4 x5 x6 ((24 * x5) + x6) h else (xcv h o0 11).bind fun _ => (fn221 o0 x1 x3 x5 ((24 * x5) + x6) h).bind fun r_11 => (if r_11.1 = 0 then j223_75 k6 (l223_15 k6 n) o0 x1 x2 x3 x4 x5 x6 ((24 * x5) + x6) r_11.2 else j223_71 k6 (l223_15 k6 n) o0 x1 x2 x3 x4 x5 x6 ((24 * x5) + x6) r_11.2)) else j223_75 k6 (l223_15 k6 n) o0 x1 x2 x3 x4 x5 x6 ((24 * x5) + x6) h) else j223_71 k6 (l223_15 k6 n) o0 x1 x2 x3 x4 x5 x6 ((24 * x5) + x6) h))
theorem l223_15_ok {xs : List Int32} {d : Nat} (hd : 4 ≤ d) {k6 : Option Nat → Int32 → Int32 → Int32 → Int32 → Int32 → xH → Option (Int32 × xH)} (hk6 : ∀ {u6 : Value} {u7 : Value} {o0 : Option Nat} {x1 : Int32} {x2 : Int32} {x3 : Int32} {x4 : Int32} {x5 : Int32} {h : xH} {r : (Int32 × xH)}, u6.category = 1 → u7.category = 1 → k6 o0 x1 x2 x3 x4 x5 h = some r → xEv (xTa xs) d 223 (6, [xrv o0, .int x1, .int x2, .int x3, .int x4, .int x5, u6, u7], [], h) (some (.int r.1), r.2)) : ∀ (n : Nat) {u7 : Value} {o0 : Option Nat} {x1 : Int32} {x2 : Int32} {x3 : Int32} {x4 : Int32} {x5 : Int32} {x6 : Int32} {h : xH} {r : (Int32 × xH)} (hu7 : u7.category = 1), l223_15 k6 n o0 x1 x2 x3 x4 x5 x6 h = some r → xEv (xTa xs) d 223 (15, [xrv o0, .int x1, .int x2, .int x3, .int x4, .int x5, .int x6, u7], [], h) (some (.int r.1), r.2) := by
  intro n
  induction n with
  | zero => intros; rename_i hf; cases hf
  | succ n ih =>
    intro u7 o0 x1 x2 x3 x4 x5 x6 h r hu7 hf
    replace hf : ((xgR h o0 11 14).bind fun a_1 => (xaI h 13 a_1 x5).bind fun v_2 => (if v_2 ≤ x6 then (xcv h o0 11).bind fun _ => (fn156 o0 x5 h).bind fun r_4 => k6 o0 x1 x2 x3 x4 r_4.1 r_4.2 else (if x4 = 0 then (xgR h o0 11 16).bind fun a_7 => (xaI h 13 a_7 ((24 * x5) + x6)).bind fun v_8 => (if v_8 = x2 then (if x2 = 3 then j223_71 k6 (l223_15 k6 n) o0 x1 x2 x3 x4 x5 x6 ((24 * x5) + x6) h else (xcv h o0 11).bind fun _ => (fn221 o0 x1 x3 x5 ((24 * x5) + x6) h).bind fun r_11 => (if r_11.1 = 0 then j223_75 k6 (l223_15 k6 n) o0 x1 x2 x3 x4 x5 x6 ((24 * x5) + x6) r_11.2 else j223_71 k6 (l223_15 k6 n) o0 x1 x2 x3 x4 x5 x6 ((24 * x5) + x6) r_11.2)) else j223_75 k6 (l223_15 k6 n) o0 x1 x2 x3 x4 x5 x6 ((24 * x5) + x6) h) else j223_71 k6 (l223_15 k6 n) o0 x1 x2 x3 x4 x5 x6 ((24 * x5) + x6) h))) = some r := hf
    refine ev_do i223_15 rfl ?_
    refine sh_aload (i' := 0) (n := 1) i223_17 (Or.inr ⟨rfl, by decide⟩) rfl ?_
    obtain ⟨a_1, ea_1, hf⟩ := x_bind hf
    refine sh_getR i223_18 f223_47 ea_1 ?_
    refine ev_do i223_21 rfl ?_
    obtain ⟨v_2, ev_2, hf⟩ := x_bind hf
    refine sh_aldI (tg := 13) i223_23 (Or.inl ⟨rfl, rfl⟩) ev_2 ?_
    refine ev_icmp (t := 84) i223_24 rfl (fun c_3 => ?_) (fun c_3 => ?_)
    · replace hf := x_pos (show v_2 ≤ x6 from c_3) hf
      refine sh_aload (i' := 0) (n := 1) i223_84 (Or.inr ⟨rfl, by decide⟩) rfl ?_
      refine ev_do i223_85 rfl ?_
      obtain ⟨_, eu_5, hf⟩ := x_bind hf
      obtain ⟨r_4, er_4, hf⟩ := x_bind hf
      refine sh_inv (as := [.int x5]) (z := (some (.int r_4.1), r_4.2)) i223_87 v223_198 (Or.inl ⟨by decide, rfl⟩) m156 rfl (Nat.le_of_ble_eq_true rfl) eu_5 (fn156_call (by omega) er_4) ?_
      refine sh_istore (i' := 5) (n := 2) i223_90 (Or.inl rfl) (xokst_of (Nat.le_of_ble_eq_true rfl) rfl) ?_
      refine sh_goto (t := 6) i223_92 rfl ?_
      exact hk6 rfl hu7 hf
    · replace hf := x_neg (show ¬ v_2 ≤ x6 from c_3) hf
      refine ev_do i223_27 rfl ?_
      refine ev_do i223_29 rfl ?_
      refine ev_do i223_31 rfl ?_
      refine ev_do i223_32 rfl ?_
      refine ev_do i223_34 rfl ?_
      refine sh_istore (i' := 7) (n := 2) i223_35 (Or.inl rfl) (xokst_of (Nat.le_of_ble_eq_true rfl) rfl) ?_
      refine ev_do i223_37 rfl ?_
      refine ev_if (t := 71) i223_39 rfl (fun c_6 => ?_) (fun c_6 => ?_)
      · replace hf := x_neg (show ¬ x4 = 0 from c_6) hf
        exact j223_71_ok hd hk6 ih hf
      · replace hf := x_pos (show x4 = 0 from Decidable.byContradiction (fun h9 => c_6 h9)) hf
        refine sh_aload (i' := 0) (n := 1) i223_42 (Or.inr ⟨rfl, by decide⟩) rfl ?_
        obtain ⟨a_7, ea_7, hf⟩ := x_bind hf
        refine sh_getR i223_43 f223_53 ea_7 ?_
        refine ev_do i223_46 rfl ?_
        obtain ⟨v_8, ev_8, hf⟩ := x_bind hf
        refine sh_aldI (tg := 13) i223_48 (Or.inl ⟨rfl, rfl⟩) ev_8 ?_
        refine ev_do i223_49 rfl ?_
        refine ev_icmp (t := 75) i223_50 rfl (fun c_9 => ?_) (fun c_9 => ?_)
        · replace hf := x_neg (show ¬ v_8 = x2 from c_9) hf
          exact j223_75_ok hd hk6 ih hf
        · replace hf := x_pos (show v_8 = x2 from Decidable.byContradiction (fun h9 => c_9 h9)) hf
          refine ev_do i223_53 rfl ?_
          refine ev_do i223_54 rfl ?_
          refine ev_icmp (t := 71) i223_55 rfl (fun c_10 => ?_) (fun c_10 => ?_)
          · replace hf := x_pos (show x2 = 3 from c_10) hf
            exact j223_71_ok hd hk6 ih hf
          · replace hf := x_neg (show ¬ x2 = 3 from c_10) hf
            refine sh_aload (i' := 0) (n := 1) i223_58 (Or.inr ⟨rfl, by decide⟩) rfl ?_
            refine ev_do i223_59 rfl ?_
            refine ev_do i223_60 rfl ?_
            refine ev_do i223_61 rfl ?_
            refine ev_do i223_63 rfl ?_
            obtain ⟨_, eu_13, hf⟩ := x_bind hf
            obtain ⟨r_11, er_11, hf⟩ := x_bind hf
            refine sh_inv (as := [.int ((24 * x5) + x6), .int x5, .int x3, .int x1]) (z := (some (.int r_11.1), r_11.2)) i223_65 v223_458 (Or.inl ⟨by decide, rfl⟩) m221 rfl (Nat.le_of_ble_eq_true rfl) eu_13 (fn221_call (by omega) er_11) ?_
            refine ev_if (t := 75) i223_68 rfl (fun c_12 => ?_) (fun c_12 => ?_)
            · replace hf := x_pos (show r_11.1 = 0 from c_12) hf
              exact j223_75_ok hd hk6 ih hf
            · replace hf := x_neg (show ¬ r_11.1 = 0 from c_12) hf
              exact j223_71_ok hd hk6 ih hf
def l223_6  : Nat → Option Nat → Int32 → Int32 → Int32 → Int32 → Int32 → xH → Option (Int32 × xH)
  | 0 => fun _ _ _ _ _ _ _ => none
  | n + 1 => fun o0 x1 x2 x3 x4 x5 h => (if x5 = (-1) then (if x4 &&& 1 = x4 then some (x4, h) else none) else l223_15 (l223_6 n) xFuel o0 x1 x2 x3 x4 x5 0 h)
theorem l223_6_ok {xs : List Int32} {d : Nat} (hd : 4 ≤ d) : ∀ (n : Nat) {u6 : Value} {u7 : Value} {o0 : Option Nat} {x1 : Int32} {x2 : Int32} {x3 : Int32} {x4 : Int32} {x5 : Int32} {h : xH} {r : (Int32 × xH)} (hu6 : u6.category = 1) (hu7 : u7.category = 1), l223_6 n o0 x1 x2 x3 x4 x5 h = some r → xEv (xTa xs) d 223 (6, [xrv o0, .int x1, .int x2, .int x3, .int x4, .int x5, u6, u7], [], h) (some (.int r.1), r.2) := by
  intro n
  induction n with
  | zero => intros; rename_i hf; cases hf
  | succ n ih =>
    intro u6 u7 o0 x1 x2 x3 x4 x5 h r hu6 hu7 hf
    replace hf : ((if x5 = (-1) then (if x4 &&& 1 = x4 then some (x4, h) else none) else l223_15 (l223_6 n) xFuel o0 x1 x2 x3 x4 x5 0 h)) = some r := hf
    refine ev_do i223_6 rfl ?_
    refine ev_do i223_8 rfl ?_
    refine ev_icmp (t := 95) i223_9 rfl (fun c_1 => ?_) (fun c_1 => ?_)
    · replace hf := x_pos (show x5 = (-1) from c_1) hf
      refine ev_do i223_95 rfl ?_
      by_cases c_2 : x4 &&& 1 = x4
      · replace hf := x_pos c_2 hf
        obtain rfl := Option.some.inj hf
        exact sh_iret i223_97 m223 rfl (congrArg Value.int c_2)
      · replace hf := x_neg c_2 hf
        cases hf
    · replace hf := x_neg (show ¬ x5 = (-1) from c_1) hf
      refine ev_do i223_12 rfl ?_
      refine sh_istore (i' := 6) (n := 2) i223_13 (Or.inl rfl) (xokst_of (Nat.le_of_ble_eq_true rfl) rfl) ?_
      exact l223_15_ok hd ih xFuel hu7 hf
def fn223 (o0 : Option Nat) (x1 : Int32) (x2 : Int32) (x3 : Int32) (h : xH) : Option (Int32 × xH) := l223_6 xFuel o0 x1 x2 x3 0 x1 h
theorem fn223_call {xs : List Int32} {d : Nat} (hd : 5 ≤ d) {o0 : Option Nat} {x1 : Int32} {x2 : Int32} {x3 : Int32} {h : xH} {r : (Int32 × xH)} (hf : fn223 o0 x1 x2 x3 h = some r) : xCall (xTa xs) d 223 [xrv o0, .int x1, .int x2, .int x3] h (some (.int r.1), r.2) := by
  obtain ⟨d, rfl⟩ : ∃ d2, d = d2 + 1 := ⟨d - 1, by omega⟩
  replace hd : 4 ≤ d := by omega
  refine call_of2 (fl := [xrv o0, .int x1, .int x2, .int x3]) (Ls := [xrv o0, .int x1, .int x2, .int x3, .float 0, .float 0, .float 0, .float 0]) m223 (by simp [xfl, xrv_cat, xc_i, xc_j, xc_a, xc_f]) (Nat.le_of_ble_eq_true rfl) rfl ?_
  unfold fn223 at hf
  refine ev_do i223_0 rfl ?_
  refine sh_istore (i' := 4) (n := 2) i223_1 (Or.inl rfl) (xokst_of (Nat.le_of_ble_eq_true rfl) rfl) ?_
  refine ev_do i223_3 rfl ?_
  refine sh_istore (i' := 5) (n := 2) i223_4 (Or.inl rfl) (xokst_of (Nat.le_of_ble_eq_true rfl) rfl) ?_
  exact l223_6_ok hd xFuel rfl rfl hf
end
