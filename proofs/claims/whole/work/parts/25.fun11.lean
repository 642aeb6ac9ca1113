section
def fn127 (o0 : Option Nat) (x1 : Int32) (h : xH) : Option (Int32 × xH) := (xgR h o0 10 6).bind fun a_1 => (xgR h a_1 5 0).bind fun a_2 => (xcv h a_2 9).bind fun _ => (fn96 a_2 x1 h).bind fun r_3 => some (xmax 0 r_3.1, r_3.2)
theorem fn127_call {xs : List Int32} {d : Nat} (hd : 3 ≤ d) {o0 : Option Nat} {x1 : Int32} {h : xH} {r : (Int32 × xH)} (hf : fn127 o0 x1 h = some r) : xCall (xTa xs) d 127 [xrv o0, .int x1] h (some (.int r.1), r.2) := by
  obtain ⟨d, rfl⟩ : ∃ d2, d = d2 + 1 := ⟨d - 1, by omega⟩
  replace hd : 2 ≤ d := by omega
  refine call_of2 (fl := [xrv o0, .int x1]) (Ls := [xrv o0, .int x1]) m127 (by simp [xfl, xrv_cat, xc_i, xc_j, xc_a, xc_f]) (Nat.le_of_ble_eq_true rfl) rfl ?_
  unfold fn127 at hf
  refine ev_do i127_0 rfl ?_
  refine sh_aload (i' := 0) (n := 1) i127_1 (Or.inr ⟨rfl, by decide⟩) rfl ?_
  obtain ⟨a_1, ea_1, hf⟩ := x_bind hf
  refine sh_getR i127_2 f127_56 ea_1 ?_
  obtain ⟨a_2, ea_2, hf⟩ := x_bind hf
  refine sh_getR i127_5 f127_247 ea_2 ?_
  refine ev_do i127_8 rfl ?_
  obtain ⟨_, eu_4, hf⟩ := x_bind hf
  obtain ⟨r_3, er_3, hf⟩ := x_bind hf
  refine sh_inv (as := [.int x1]) (z := (some (.int r_3.1), r_3.2)) i127_9 v127_257 (Or.inl ⟨by decide, rfl⟩) m96 rfl (Nat.le_of_ble_eq_true rfl) eu_4 (fn96_call (by omega) er_3) ?_
  refine sh_max i127_12 v127_261 (Nat.le_of_ble_eq_true rfl) ?_
  obtain rfl := Option.some.inj hf
  exact sh_iret i127_15 m127 rfl rfl
end
section
def j128_28  (o0 : Option Nat) (x1 : Int32) (s0 : Int32) (h : xH) : Option (Int32 × xH) := some (s0, h)
theorem j128_28_ok {xs : List Int32} {d : Nat} (hd : 1 ≤ d) {o0 : Option Nat} {x1 : Int32} {s0 : Int32} {h : xH} {r : (Int32 × xH)} (hf : j128_28 o0 x1 s0 h = some r) : xEv (xTa xs) d 128 (28, [xrv o0, .int x1], [.int s0], h) (some (.int r.1), r.2) := by
  unfold j128_28 at hf
  obtain rfl := Option.some.inj hf
  exact sh_iret i128_28 m128 rfl rfl
def j128_15  (o0 : Option Nat) (x1 : Int32) (h : xH) : Option (Int32 × xH) := j128_28 o0 x1 (-1) h
theorem j128_15_ok {xs : List Int32} {d : Nat} (hd : 1 ≤ d) {o0 : Option Nat} {x1 : Int32} {h : xH} {r : (Int32 × xH)} (hf : j128_15 o0 x1 h = some r) : xEv (xTa xs) d 128 (15, [xrv o0, .int x1], [], h) (some (.int r.1), r.2) := by
  unfold j128_15 at hf
  refine ev_do i128_15 rfl ?_
  refine sh_goto (t := 28) i128_16 rfl ?_
  exact j128_28_ok hd hf
def fn128 (o0 : Option Nat) (x1 : Int32) (h : xH) : Option (Int32 × xH) := (if x1 < 0 then j128_15 o0 x1 h else (xgR h o0 10 6).bind fun a_2 => (xgI h a_2 5 3).bind fun v_3 => (if x1 < v_3 then (xgR h o0 10 6).bind fun a_5 => (xgR h a_5 5 1).bind fun a_6 => (xaI h 13 a_6 x1).bind fun v_7 => j128_28 o0 x1 v_7 h else j128_15 o0 x1 h))
theorem fn128_call {xs : List Int32} {d : Nat} (hd : 2 ≤ d) {o0 : Option Nat} {x1 : Int32} {h : xH} {r : (Int32 × xH)} (hf : fn128 o0 x1 h = some r) : xCall (xTa xs) d 128 [xrv o0, .int x1] h (some (.int r.1), r.2) := by
  obtain ⟨d, rfl⟩ : ∃ d2, d = d2 + 1 := ⟨d - 1, by omega⟩
  replace hd : 1 ≤ d := by omega
  refine call_of2 (fl := [xrv o0, .int x1]) (Ls := [xrv o0, .int x1]) m128 (by simp [xfl, xrv_cat, xc_i, xc_j, xc_a, xc_f]) (Nat.le_of_ble_eq_true rfl) rfl ?_
  unfold fn128 at hf
  refine ev_do i128_0 rfl ?_
  refine ev_if (t := 15) i128_1 rfl (fun c_1 => ?_) (fun c_1 => ?_)
  · replace hf := x_pos (show x1 < 0 from c_1) hf
    exact j128_15_ok hd hf
  · replace hf := x_neg (show ¬ x1 < 0 from c_1) hf
    refine ev_do i128_4 rfl ?_
    refine sh_aload (i' := 0) (n := 1) i128_5 (Or.inr ⟨rfl, by decide⟩) rfl ?_
    obtain ⟨a_2, ea_2, hf⟩ := x_bind hf
    refine sh_getR i128_6 f128_56 ea_2 ?_
    obtain ⟨v_3, ev_3, hf⟩ := x_bind hf
    refine sh_getI i128_9 f128_244 ev_3 ?_
    refine ev_icmp (t := 19) i128_12 rfl (fun c_4 => ?_) (fun c_4 => ?_)
    · replace hf := x_pos (show x1 < v_3 from c_4) hf
      refine sh_aload (i' := 0) (n := 1) i128_19 (Or.inr ⟨rfl, by decide⟩) rfl ?_
      obtain ⟨a_5, ea_5, hf⟩ := x_bind hf
      refine sh_getR i128_20 f128_56 ea_5 ?_
      obtain ⟨a_6, ea_6, hf⟩ := x_bind hf
      refine sh_getR i128_23 f128_267 ea_6 ?_
      refine ev_do i128_26 rfl ?_
      obtain ⟨v_7, ev_7, hf⟩ := x_bind hf
      refine sh_aldI (tg := 13) i128_27 (Or.inl ⟨rfl, rfl⟩) ev_7 ?_
      exact j128_28_ok hd hf
    · replace hf := x_neg (show ¬ x1 < v_3 from c_4) hf
      exact j128_15_ok hd hf
end
section
def fn129 (o0 : Option Nat) (x1 : Int32) (h : xH) : Option (Int32 × xH) := (xgR h o0 10 6).bind fun a_1 => (xcv h a_1 5).bind fun _ => (fn57 a_1 x1 h).bind fun r_2 => (fn134 r_2.1 r_2.2).bind fun r_3 => some (r_3.1, r_3.2)
theorem fn129_call {xs : List Int32} {d : Nat} (hd : 3 ≤ d) {o0 : Option Nat} {x1 : Int32} {h : xH} {r : (Int32 × xH)} (hf : fn129 o0 x1 h = some r) : xCall (xTa xs) d 129 [xrv o0, .int x1] h (some (.int r.1), r.2) := by
  obtain ⟨d, rfl⟩ : ∃ d2, d = d2 + 1 := ⟨d - 1, by omega⟩
  replace hd : 2 ≤ d := by omega
  refine call_of2 (fl := [xrv o0, .int x1]) (Ls := [xrv o0, .int x1]) m129 (by simp [xfl, xrv_cat, xc_i, xc_j, xc_a, xc_f]) (Nat.le_of_ble_eq_true rfl) rfl ?_
  unfold fn129 at hf
  refine sh_aload (i' := 0) (n := 1) i129_0 (Or.inr ⟨rfl, by decide⟩) rfl ?_
  obtain ⟨a_1, ea_1, hf⟩ := x_bind hf
  refine sh_getR i129_1 f129_56 ea_1 ?_
  refine ev_do i129_4 rfl ?_
  obtain ⟨_, eu_4, hf⟩ := x_bind hf
  obtain ⟨r_2, er_2, hf⟩ := x_bind hf
  refine sh_inv (as := [.int x1]) (z := (some (xrv r_2.1), r_2.2)) i129_5 v129_271 (Or.inl ⟨by decide, rfl⟩) m57 rfl (Nat.le_of_ble_eq_true rfl) eu_4 (fn57_call (by omega) er_2) ?_
  obtain ⟨r_3, er_3, hf⟩ := x_bind hf
  refine ev_sta (as := [xrv r_2.1]) (z := (some (.int r_3.1), r_3.2)) i129_8 v129_146 (Or.inl rfl) m134 rfl (Nat.le_of_ble_eq_true rfl) (fn134_call (by omega) er_3) ?_
  obtain rfl := Option.some.inj hf
  exact sh_iret i129_11 m129 rfl rfl
end
section
def fn130 (o0 : Option Nat) (x1 : Int32) (h : xH) : Option (Int32 × xH) := (xgR h o0 10 1).bind fun a_1 => (xcv h a_1 8).bind fun _ => (fn83 a_1 x1 h).bind fun r_2 => (if r_2.1 = none then some ((-1), r_2.2) else (xgR r_2.2 o0 10 4).bind fun a_4 => (xgR r_2.2 o0 10 1).bind fun a_5 => (xcv r_2.2 a_4 4).bind fun _ => (fn42 a_4 a_5 r_2.1 r_2.2).bind fun h_6 => (xgR h_6 o0 10 4).bind fun a_7 => (xgI h_6 a_7 4 2).bind fun v_8 => some (v_8, h_6))
theorem fn130_call {xs : List Int32} {d : Nat} (hd : 9 ≤ d) {o0 : Option Nat} {x1 : Int32} {h : xH} {r : (Int32 × xH)} (hf : fn130 o0 x1 h = some r) : xCall (xTa xs) d 130 [xrv o0, .int x1] h (some (.int r.1), r.2) := by
  obtain ⟨d, rfl⟩ : ∃ d2, d = d2 + 1 := ⟨d - 1, by omega⟩
  replace hd : 8 ≤ d := by omega
  refine call_of2 (fl := [xrv o0, .int x1]) (Ls := [xrv o0, .int x1, .float 0]) m130 (by simp [xfl, xrv_cat, xc_i, xc_j, xc_a, xc_f]) (Nat.le_of_ble_eq_true rfl) rfl ?_
  unfold fn130 at hf
  refine sh_aload (i' := 0) (n := 1) i130_0 (Or.inr ⟨rfl, by decide⟩) rfl ?_
  obtain ⟨a_1, ea_1, hf⟩ := x_bind hf
  refine sh_getR i130_1 f130_21 ea_1 ?_
  refine ev_do i130_4 rfl ?_
  obtain ⟨_, eu_10, hf⟩ := x_bind hf
  obtain ⟨r_2, er_2, hf⟩ := x_bind hf
  refine sh_inv (as := [.int x1]) (z := (some (xrv r_2.1), r_2.2)) i130_5 v130_93 (Or.inl ⟨by decide, rfl⟩) m83 rfl (Nat.le_of_ble_eq_true rfl) eu_10 (fn83_call (by omega) er_2) ?_
  refine sh_astore (i' := 2) (n := 1) i130_8 (Or.inr ⟨rfl, by decide⟩) (xokst_of (Nat.le_of_ble_eq_true rfl) rfl) ?_
  refine sh_aload (i' := 2) (n := 1) i130_9 (Or.inr ⟨rfl, by decide⟩) rfl ?_
  refine sh_nnul (t := 15) i130_10 rfl (fun c_3 => ?_) (fun c_3 => ?_)
  · replace hf := x_pos c_3 hf
    refine ev_do i130_13 rfl ?_
    obtain rfl := Option.some.inj hf
    exact sh_iret i130_14 m130 rfl rfl
  · replace hf := x_neg c_3 hf
    refine sh_aload (i' := 0) (n := 1) i130_15 (Or.inr ⟨rfl, by decide⟩) rfl ?_
    obtain ⟨a_4, ea_4, hf⟩ := x_bind hf
    refine sh_getR i130_16 f130_42 ea_4 ?_
    refine sh_aload (i' := 0) (n := 1) i130_19 (Or.inr ⟨rfl, by decide⟩) rfl ?_
    obtain ⟨a_5, ea_5, hf⟩ := x_bind hf
    refine sh_getR i130_20 f130_21 ea_5 ?_
    refine sh_aload (i' := 2) (n := 1) i130_23 (Or.inr ⟨rfl, by decide⟩) rfl ?_
    obtain ⟨_, eu_9, hf⟩ := x_bind hf
    obtain ⟨h_6, eh_6, hf⟩ := x_bind hf
    refine sh_inv (as := [xrv r_2.1, xrv a_5]) (z := (none, h_6)) i130_24 v130_274 (Or.inl ⟨by decide, rfl⟩) m42 rfl (Nat.le_of_ble_eq_true rfl) eu_9 (fn42_call (by omega) eh_6) ?_
    refine sh_aload (i' := 0) (n := 1) i130_27 (Or.inr ⟨rfl, by decide⟩) rfl ?_
    obtain ⟨a_7, ea_7, hf⟩ := x_bind hf
    refine sh_getR i130_28 f130_42 ea_7 ?_
    obtain ⟨v_8, ev_8, hf⟩ := x_bind hf
    refine sh_getI i130_31 f130_278 ev_8 ?_
    obtain rfl := Option.some.inj hf
    exact sh_iret i130_34 m130 rfl rfl
end
section
def j131_15  (o0 : Option Nat) (x1 : Int32) (x2 : Int32) (h : xH) : Option (Int32 × xH) := some ((-1), h)
theorem j131_15_ok {xs : List Int32} {d : Nat} (hd : 1 ≤ d) {o0 : Option Nat} {x1 : Int32} {x2 : Int32} {h : xH} {r : (Int32 × xH)} (hf : j131_15 o0 x1 x2 h = some r) : xEv (xTa xs) d 131 (15, [xrv o0, .int x1, .int x2], [], h) (some (.int r.1), r.2) := by
  unfold j131_15 at hf
  refine ev_do i131_15 rfl ?_
  obtain rfl := Option.some.inj hf
  exact sh_iret i131_16 m131 rfl rfl
def fn131 (o0 : Option Nat) (x1 : Int32) (x2 : Int32) (h : xH) : Option (Int32 × xH) := (if x1 < 0 then j131_15 o0 x1 x2 h else (xgR h o0 10 4).bind fun a_2 => (xgI h a_2 4 2).bind fun v_3 => (if x1 < v_3 then (if x2 = 0 then (xgR h o0 10 4).bind fun a_6 => (xgR h a_6 4 0).bind fun a_7 => (xaI h 13 a_7 x1).bind fun v_8 => some (v_8, h) else (if x2 = 1 then (xgR h o0 10 4).bind fun a_10 => (xgR h a_10 4 1).bind fun a_11 => (xaI h 13 a_11 x1).bind fun v_12 => some (v_12, h) else some ((-1), h))) else j131_15 o0 x1 x2 h))
theorem fn131_call {xs : List Int32} {d : Nat} (hd : 2 ≤ d) {o0 : Option Nat} {x1 : Int32} {x2 : Int32} {h : xH} {r : (Int32 × xH)} (hf : fn131 o0 x1 x2 h = some r) : xCall (xTa xs) d 131 [xrv o0, .int x1, .int x2] h (some (.int r.1), r.2) := by
  obtain ⟨d, rfl⟩ : ∃ d2, d = d2 + 1 := ⟨d - 1, by omega⟩
  replace hd : 1 ≤ d := by omega
  refine call_of2 (fl := [xrv o0, .int x1, .int x2]) (Ls := [xrv o0, .int x1, .int x2]) m131 (by simp [xfl, xrv_cat, xc_i, xc_j, xc_a, xc_f]) (Nat.le_of_ble_eq_true rfl) rfl ?_
  unfold fn131 at hf
  refine ev_do i131_0 rfl ?_
  refine ev_if (t := 15) i131_1 rfl (fun c_1 => ?_) (fun c_1 => ?_)
  · replace hf := x_pos (show x1 < 0 from c_1) hf
    exact j131_15_ok hd hf
  · replace hf := x_neg (show ¬ x1 < 0 from c_1) hf
    refine ev_do i131_4 rfl ?_
    refine sh_aload (i' := 0) (n := 1) i131_5 (Or.inr ⟨rfl, by decide⟩) rfl ?_
    obtain ⟨a_2, ea_2, hf⟩ := x_bind hf
    refine sh_getR i131_6 f131_42 ea_2 ?_
    obtain ⟨v_3, ev_3, hf⟩ := x_bind hf
    refine sh_getI i131_9 f131_278 ev_3 ?_
    refine ev_icmp (t := 17) i131_12 rfl (fun c_4 => ?_) (fun c_4 => ?_)
    · replace hf := x_pos (show x1 < v_3 from c_4) hf
      refine ev_do i131_17 rfl ?_
      by_cases c_5 : x2 = 0
      · replace hf := x_pos c_5 hf
        refine sh_lswC (c := 0) (t := 44) i131_18 (show (x2).toInt = 0 by rw [c_5]; rfl) (by decide) rfl rfl ?_
        refine sh_aload (i' := 0) (n := 1) i131_44 (Or.inr ⟨rfl, by decide⟩) rfl ?_
        obtain ⟨a_6, ea_6, hf⟩ := x_bind hf
        refine sh_getR i131_45 f131_42 ea_6 ?_
        obtain ⟨a_7, ea_7, hf⟩ := x_bind hf
        refine sh_getR i131_48 f131_279 ea_7 ?_
        refine ev_do i131_51 rfl ?_
        obtain ⟨v_8, ev_8, hf⟩ := x_bind hf
        refine sh_aldI (tg := 13) i131_52 (Or.inl ⟨rfl, rfl⟩) ev_8 ?_
        obtain rfl := Option.some.inj hf
        exact sh_iret i131_53 m131 rfl rfl
      · replace hf := x_neg c_5 hf
        by_cases c_9 : x2 = 1
        · replace hf := x_pos c_9 hf
          refine sh_lswC (c := 1) (t := 54) i131_18 (show (x2).toInt = 1 by rw [c_9]; rfl) (by decide) rfl rfl ?_
          refine sh_aload (i' := 0) (n := 1) i131_54 (Or.inr ⟨rfl, by decide⟩) rfl ?_
          obtain ⟨a_10, ea_10, hf⟩ := x_bind hf
          refine sh_getR i131_55 f131_42 ea_10 ?_
          obtain ⟨a_11, ea_11, hf⟩ := x_bind hf
          refine sh_getR i131_58 f131_282 ea_11 ?_
          refine ev_do i131_61 rfl ?_
          obtain ⟨v_12, ev_12, hf⟩ := x_bind hf
          refine sh_aldI (tg := 13) i131_62 (Or.inl ⟨rfl, rfl⟩) ev_12 ?_
          obtain rfl := Option.some.inj hf
          exact sh_iret i131_63 m131 rfl rfl
        · replace hf := x_neg c_9 hf
          refine sh_lswD (t := 64) i131_18 (by decide) (by rw [show (#[(0, 26), (1, 36)] : Array (Int × Int)).toList = [(0, 26), (1, 36)] from rfl, lv_osw (a := 0) c_5 rfl, lv_osw (a := 1) c_9 rfl]; rfl) rfl ?_
          refine ev_do i131_64 rfl ?_
          obtain rfl := Option.some.inj hf
          exact sh_iret i131_65 m131 rfl rfl
    · replace hf := x_neg (show ¬ x1 < v_3 from c_4) hf
      exact j131_15_ok hd hf
end
section
def fn132 (o0 : Option Nat) (x1 : Int32) (h : xH) : Option (Int32 × xH) := (if x1 = 0 then (xgR h o0 10 1).bind fun a_2 => (xgI h a_2 8 1).bind fun v_3 => some (v_3, h) else (if x1 = 1 then (xgR h o0 10 1).bind fun a_5 => (xcv h a_5 8).bind fun _ => (fn85 a_5 h).bind fun r_6 => some (r_6.1, r_6.2) else (if x1 = 2 then (xgR h o0 10 0).bind fun a_9 => (xgI h a_9 9 1).bind fun v_10 => some (v_10, h) else (if x1 = 3 then (xgR h o0 10 1).bind fun a_12 => (xcv h a_12 8).bind fun _ => (fn86 a_12 h).bind fun r_13 => some (r_13.1, r_13.2) else some ((-1), h)))))
theorem fn132_call {xs : List Int32} {d : Nat} (hd : 5 ≤ d) {o0 : Option Nat} {x1 : Int32} {h : xH} {r : (Int32 × xH)} (hf : fn132 o0 x1 h = some r) : xCall (xTa xs) d 132 [xrv o0, .int x1] h (some (.int r.1), r.2) := by
  obtain ⟨d, rfl⟩ : ∃ d2, d = d2 + 1 := ⟨d - 1, by omega⟩
  replace hd : 4 ≤ d := by omega
  refine call_of2 (fl := [xrv o0, .int x1]) (Ls := [xrv o0, .int x1]) m132 (by simp [xfl, xrv_cat, xc_i, xc_j, xc_a, xc_f]) (Nat.le_of_ble_eq_true rfl) rfl ?_
  unfold fn132 at hf
  refine ev_do i132_0 rfl ?_
  by_cases c_1 : x1 = 0
  · replace hf := x_pos c_1 hf
    refine sh_tswC (c := 0) (t := 32) i132_1 (show (x1).toInt = 0 by rw [c_1]; rfl) (by decide) (by decide) rfl rfl ?_
    refine sh_aload (i' := 0) (n := 1) i132_32 (Or.inr ⟨rfl, by decide⟩) rfl ?_
    obtain ⟨a_2, ea_2, hf⟩ := x_bind hf
    refine sh_getR i132_33 f132_21 ea_2 ?_
    obtain ⟨v_3, ev_3, hf⟩ := x_bind hf
    refine sh_getI i132_36 f132_285 ev_3 ?_
    obtain rfl := Option.some.inj hf
    exact sh_iret i132_39 m132 rfl rfl
  · replace hf := x_neg c_1 hf
    by_cases c_4 : x1 = 1
    · replace hf := x_pos c_4 hf
      refine sh_tswC (c := 1) (t := 40) i132_1 (show (x1).toInt = 1 by rw [c_4]; rfl) (by decide) (by decide) rfl rfl ?_
      refine sh_aload (i' := 0) (n := 1) i132_40 (Or.inr ⟨rfl, by decide⟩) rfl ?_
      obtain ⟨a_5, ea_5, hf⟩ := x_bind hf
      refine sh_getR i132_41 f132_21 ea_5 ?_
      obtain ⟨_, eu_7, hf⟩ := x_bind hf
      obtain ⟨r_6, er_6, hf⟩ := x_bind hf
      refine sh_inv (as := []) (z := (some (.int r_6.1), r_6.2)) i132_44 v132_286 (Or.inl ⟨by decide, rfl⟩) m85 rfl (Nat.le_of_ble_eq_true rfl) eu_7 (fn85_call (by omega) er_6) ?_
      obtain rfl := Option.some.inj hf
      exact sh_iret i132_47 m132 rfl rfl
    · replace hf := x_neg c_4 hf
      by_cases c_8 : x1 = 2
      · replace hf := x_pos c_8 hf
        refine sh_tswC (c := 2) (t := 48) i132_1 (show (x1).toInt = 2 by rw [c_8]; rfl) (by decide) (by decide) rfl rfl ?_
        refine sh_aload (i' := 0) (n := 1) i132_48 (Or.inr ⟨rfl, by decide⟩) rfl ?_
        obtain ⟨a_9, ea_9, hf⟩ := x_bind hf
        refine sh_getR i132_49 f132_14 ea_9 ?_
        obtain ⟨v_10, ev_10, hf⟩ := x_bind hf
        refine sh_getI i132_52 f132_63 ev_10 ?_
        obtain rfl := Option.some.inj hf
        exact sh_iret i132_55 m132 rfl rfl
      · replace hf := x_neg c_8 hf
        by_cases c_11 : x1 = 3
        · replace hf := x_pos c_11 hf
          refine sh_tswC (c := 3) (t := 56) i132_1 (show (x1).toInt = 3 by rw [c_11]; rfl) (by decide) (by decide) rfl rfl ?_
          refine sh_aload (i' := 0) (n := 1) i132_56 (Or.inr ⟨rfl, by decide⟩) rfl ?_
          obtain ⟨a_12, ea_12, hf⟩ := x_bind hf
          refine sh_getR i132_57 f132_21 ea_12 ?_
          obtain ⟨_, eu_14, hf⟩ := x_bind hf
          obtain ⟨r_13, er_13, hf⟩ := x_bind hf
          refine sh_inv (as := []) (z := (some (.int r_13.1), r_13.2)) i132_60 v132_290 (Or.inl ⟨by decide, rfl⟩) m86 rfl (Nat.le_of_ble_eq_true rfl) eu_14 (fn86_call (by omega) er_13) ?_
          obtain rfl := Option.some.inj hf
          exact sh_iret i132_63 m132 rfl rfl
        · replace hf := x_neg c_11 hf
          have nc_1 : (x1).toInt ≠ 0 := fun h9 => c_1 (Int32.toInt_inj.mp h9)
          have nc_4 : (x1).toInt ≠ 1 := fun h9 => c_4 (Int32.toInt_inj.mp h9)
          have nc_8 : (x1).toInt ≠ 2 := fun h9 => c_8 (Int32.toInt_inj.mp h9)
          have nc_11 : (x1).toInt ≠ 3 := fun h9 => c_11 (Int32.toInt_inj.mp h9)
          refine sh_tswD (t := 64) i132_1 (show (x1).toInt < 0 ∨ 3 < (x1).toInt by omega) rfl ?_
          refine ev_do i132_64 rfl ?_
          obtain rfl := Option.some.inj hf
          exact sh_iret i132_65 m132 rfl rfl
end
section
def fn140 (o0 : Option Nat) (h : xH) : Option xH := (o0).bind fun a_1 => (xnA h 13 (.int 0) 600).bind fun h_2 => (xpF h_2 o0 11 0 (.array .int) (xrv (some h.1))).bind fun h_3 => (xnA h_3 14 (.int 0) 40).bind fun h_4 => (xpF h_4 o0 11 3 (.array .boolean) (xrv (some h_3.1))).bind fun h_5 => (xnA h_5 13 (.int 0) 40).bind fun h_6 => (xpF h_6 o0 11 4 (.array .int) (xrv (some h_5.1))).bind fun h_7 => (xnA h_7 13 (.int 0) 40).bind fun h_8 => (xpF h_8 o0 11 5 (.array .int) (xrv (some h_7.1))).bind fun h_9 => (xnA h_9 14 (.int 0) 40).bind fun h_10 => (xpF h_10 o0 11 6 (.array .boolean) (xrv (some h_9.1))).bind fun h_11 => (xnA h_11 13 (.int 0) 400).bind fun h_12 => (xpF h_12 o0 11 7 (.array .int) (xrv (some h_11.1))).bind fun h_13 => (xnA h_13 13 (.int 0) 40).bind fun h_14 => (xpF h_14 o0 11 8 (.array .int) (xrv (some h_13.1))).bind fun h_15 => (xnA h_15 13 (.int 0) 40).bind fun h_16 => (xpF h_16 o0 11 9 (.array .int) (xrv (some h_15.1))).bind fun h_17 => (xnA h_17 13 (.int 0) 1600).bind fun h_18 => (xpF h_18 o0 11 10 (.array .int) (xrv (some h_17.1))).bind fun h_19 => (xnA h_19 13 (.int 0) 160).bind fun h_20 => (xpF h_20 o0 11 11 (.array .int) (xrv (some h_19.1))).bind fun h_21 => (xnA h_21 13 (.int 0) 24600).bind fun h_22 => (xpF h_22 o0 11 12 (.array .int) (xrv (some h_21.1))).bind fun h_23 => (xnA h_23 13 (.int 0) 41).bind fun h_24 => (xpF h_24 o0 11 13 (.array .int) (xrv (some h_23.1))).bind fun h_25 => (xnA h_25 13 (.int 0) 41).bind fun h_26 => (xpF h_26 o0 11 14 (.array .int) (xrv (some h_25.1))).bind fun h_27 => (xnA h_27 13 (.int 0) 41).bind fun h_28 => (xpF h_28 o0 11 15 (.array .int) (xrv (some h_27.1))).bind fun h_29 => (xnA h_29 13 (.int 0) 984).bind fun h_30 => (xpF h_30 o0 11 16 (.array .int) (xrv (some h_29.1))).bind fun h_31 => (xnA h_31 13 (.int 0) 984).bind fun h_32 => (xpF h_32 o0 11 17 (.array .int) (xrv (some h_31.1))).bind fun h_33 => (xnA h_33 13 (.int 0) 984).bind fun h_34 => (xpF h_34 o0 11 18 (.array .int) (xrv (some h_33.1))).bind fun h_35 => (xnA h_35 13 (.int 0) 984).bind fun h_36 => (xpF h_36 o0 11 19 (.array .int) (xrv (some h_35.1))).bind fun h_37 => (xnA h_37 13 (.int 0) 984).bind fun h_38 => (xpF h_38 o0 11 20 (.array .int) (xrv (some h_37.1))).bind fun h_39 => (xnA h_39 13 (.int 0) 984).bind fun h_40 => (xpF h_40 o0 11 21 (.array .int) (xrv (some h_39.1))).bind fun h_41 => (xnA h_41 13 (.int 0) 984).bind fun h_42 => (xpF h_42 o0 11 22 (.array .int) (xrv (some h_41.1))).bind fun h_43 => (xnA h_43 14 (.int 0) 984).bind fun h_44 => (xpF h_44 o0 11 23 (.array .boolean) (xrv (some h_43.1))).bind fun h_45 => (xnA h_45 13 (.int 0) 4920).bind fun h_46 => (xpF h_46 o0 11 24 (.array .int) (xrv (some h_45.1))).bind fun h_47 => (xnA h_47 13 (.int 0) 4920).bind fun h_48 => (xpF h_48 o0 11 25 (.array .int) (xrv (some h_47.1))).bind fun h_49 => (xnA h_49 13 (.int 0) 4920).bind fun h_50 => (xpF h_50 o0 11 26 (.array .int) (xrv (some h_49.1))).bind fun h_51 => (xnA h_51 13 (.int 0) 4920).bind fun h_52 => (xpF h_52 o0 11 27 (.array .int) (xrv (some h_51.1))).bind fun h_53 => (xnA h_53 14 (.int 0) 4920).bind fun h_54 => (xpF h_54 o0 11 28 (.array .boolean) (xrv (some h_53.1))).bind fun h_55 => (xnA h_55 13 (.int 0) 4920).bind fun h_56 => (xpF h_56 o0 11 29 (.array .int) (xrv (some h_55.1))).bind fun h_57 => (xnA h_57 13 (.int 0) 4920).bind fun h_58 => (xpF h_58 o0 11 30 (.array .int) (xrv (some h_57.1))).bind fun h_59 => (xnA h_59 13 (.int 0) 4000).bind fun h_60 => (xpF h_60 o0 11 44 (.array .int) (xrv (some h_59.1))).bind fun h_61 => (xnA h_61 13 (.int 0) 4001).bind fun h_62 => (xpF h_62 o0 11 46 (.array .int) (xrv (some h_61.1))).bind fun h_63 => (xnA h_63 13 (.int 0) 40).bind fun h_64 => (xpF h_64 o0 11 50 (.array .int) (xrv (some h_63.1))).bind fun h_65 => (xnA h_65 13 (.int 0) 4000).bind fun h_66 => (xpF h_66 o0 11 52 (.array .int) (xrv (some h_65.1))).bind fun h_67 => (xnA h_67 13 (.int 0) 4001).bind fun h_68 => (xpF h_68 o0 11 54 (.array .int) (xrv (some h_67.1))).bind fun h_69 => (xnA h_69 13 (.int 0) 40).bind fun h_70 => (xpF h_70 o0 11 58 (.array .int) (xrv (some h_69.1))).bind fun h_71 => (xnA h_71 13 (.int 0) 3000).bind fun h_72 => (xpF h_72 o0 11 60 (.array .int) (xrv (some h_71.1))).bind fun h_73 => (xnA h_73 13 (.int 0) 130).bind fun h_74 => (xpF h_74 o0 11 62 (.array .int) (xrv (some h_73.1))).bind fun h_75 => (xnA h_75 13 (.int 0) 130).bind fun h_76 => (xpF h_76 o0 11 64 (.array .int) (xrv (some h_75.1))).bind fun h_77 => (xnA h_77 13 (.int 0) 131).bind fun h_78 => (xpF h_78 o0 11 65 (.array .int) (xrv (some h_77.1))).bind fun h_79 => (xnA h_79 13 (.int 0) 1000).bind fun h_80 => (xpF h_80 o0 11 66 (.array .int) (xrv (some h_79.1))).bind fun h_81 => (xnA h_81 13 (.int 0) 1000).bind fun h_82 => (xpF h_82 o0 11 67 (.array .int) (xrv (some h_81.1))).bind fun h_83 => (xnA h_83 13 (.int 0) 42).bind fun h_84 => (xpF h_84 o0 11 69 (.array .int) (xrv (some h_83.1))).bind fun h_85 => (xnA h_85 13 (.int 0) 42).bind fun h_86 => (xpF h_86 o0 11 70 (.array .int) (xrv (some h_85.1))).bind fun h_87 => (xnA h_87 13 (.int 0) 200).bind fun h_88 => (xpF h_88 o0 11 71 (.array .int) (xrv (some h_87.1))).bind fun h_89 => (xnA h_89 13 (.int 0) 200).bind fun h_90 => (xpF h_90 o0 11 72 (.array .int) (xrv (some h_89.1))).bind fun h_91 => some h_91
theorem fn140_call {xs : List Int32} {d : Nat} (hd : 2 ≤ d) {o0 : Option Nat} {h : xH} {r : xH} (hf : fn140 o0 h = some r) : xCall (xTa xs) d 140 [xrv o0] h (none, r) := by
  obtain ⟨d, rfl⟩ : ∃ d2, d = d2 + 1 := ⟨d - 1, by omega⟩
  replace hd : 1 ≤ d := by omega
  refine call_of2 (fl := [xrv o0]) (Ls := [xrv o0]) m140 (by simp [xfl, xrv_cat, xc_i, xc_j, xc_a, xc_f]) (Nat.le_of_ble_eq_true rfl) rfl ?_
  unfold fn140 at hf
  refine sh_aload (i' := 0) (n := 1) i140_0 (Or.inr ⟨rfl, by decide⟩) rfl ?_
  obtain ⟨a_1, ea_1, hf⟩ := x_bind hf
  refine sh_obj i140_1 v140_3 (Nat.le_of_ble_eq_true rfl) ea_1 ?_
  refine sh_aload (i' := 0) (n := 1) i140_4 (Or.inr ⟨rfl, by decide⟩) rfl ?_
  refine ev_do i140_5 rfl ?_
  obtain ⟨h_2, eh_2, hf⟩ := x_bind hf
  refine sh_newa (tg := 13) (n := 2) (v := (.int 0)) i140_8 (fun _ _ _ => rfl) eh_2 ?_
  obtain ⟨h_3, eh_3, hf⟩ := x_bind hf
  refine sh_put i140_10 f140_9 (by decide) rfl eh_3 ?_
  refine sh_aload (i' := 0) (n := 1) i140_13 (Or.inr ⟨rfl, by decide⟩) rfl ?_
  refine ev_do i140_14 rfl ?_
  obtain ⟨h_4, eh_4, hf⟩ := x_bind hf
  refine sh_newa (tg := 14) (n := 2) (v := (.int 0)) i140_16 (fun _ _ _ => rfl) eh_4 ?_
  obtain ⟨h_5, eh_5, hf⟩ := x_bind hf
  refine sh_put i140_18 f140_13 (by decide) rfl eh_5 ?_
  refine sh_aload (i' := 0) (n := 1) i140_21 (Or.inr ⟨rfl, by decide⟩) rfl ?_
  refine ev_do i140_22 rfl ?_
  obtain ⟨h_6, eh_6, hf⟩ := x_bind hf
  refine sh_newa (tg := 13) (n := 2) (v := (.int 0)) i140_24 (fun _ _ _ => rfl) eh_6 ?_
  obtain ⟨h_7, eh_7, hf⟩ := x_bind hf
  refine sh_put i140_26 f140_17 (by decide) rfl eh_7 ?_
  refine sh_aload (i' := 0) (n := 1) i140_29 (Or.inr ⟨rfl, by decide⟩) rfl ?_
  refine ev_do i140_30 rfl ?_
  obtain ⟨h_8, eh_8, hf⟩ := x_bind hf
  refine sh_newa (tg := 13) (n := 2) (v := (.int 0)) i140_32 (fun _ _ _ => rfl) eh_8 ?_
  obtain ⟨h_9, eh_9, hf⟩ := x_bind hf
  refine sh_put i140_34 f140_20 (by decide) rfl eh_9 ?_
  refine sh_aload (i' := 0) (n := 1) i140_37 (Or.inr ⟨rfl, by decide⟩) rfl ?_
  refine ev_do i140_38 rfl ?_
  obtain ⟨h_10, eh_10, hf⟩ := x_bind hf
  refine sh_newa (tg := 14) (n := 2) (v := (.int 0)) i140_40 (fun _ _ _ => rfl) eh_10 ?_
  obtain ⟨h_11, eh_11, hf⟩ := x_bind hf
  refine sh_put i140_42 f140_23 (by decide) rfl eh_11 ?_
  refine sh_aload (i' := 0) (n := 1) i140_45 (Or.inr ⟨rfl, by decide⟩) rfl ?_
  refine ev_do i140_46 rfl ?_
  obtain ⟨h_12, eh_12, hf⟩ := x_bind hf
  refine sh_newa (tg := 13) (n := 2) (v := (.int 0)) i140_49 (fun _ _ _ => rfl) eh_12 ?_
  obtain ⟨h_13, eh_13, hf⟩ := x_bind hf
  refine sh_put i140_51 f140_26 (by decide) rfl eh_13 ?_
  refine sh_aload (i' := 0) (n := 1) i140_54 (Or.inr ⟨rfl, by decide⟩) rfl ?_
  refine ev_do i140_55 rfl ?_
  obtain ⟨h_14, eh_14, hf⟩ := x_bind hf
  refine sh_newa (tg := 13) (n := 2) (v := (.int 0)) i140_57 (fun _ _ _ => rfl) eh_14 ?_
  obtain ⟨h_15, eh_15, hf⟩ := x_bind hf
  refine sh_put i140_59 f140_29 (by decide) rfl eh_15 ?_
  refine sh_aload (i' := 0) (n := 1) i140_62 (Or.inr ⟨rfl, by decide⟩) rfl ?_
  refine ev_do i140_63 rfl ?_
  obtain ⟨h_16, eh_16, hf⟩ := x_bind hf
  refine sh_newa (tg := 13) (n := 2) (v := (.int 0)) i140_65 (fun _ _ _ => rfl) eh_16 ?_
  obtain ⟨h_17, eh_17, hf⟩ := x_bind hf
  refine sh_put i140_67 f140_32 (by decide) rfl eh_17 ?_
  refine sh_aload (i' := 0) (n := 1) i140_70 (Or.inr ⟨rfl, by decide⟩) rfl ?_
  refine ev_do i140_71 rfl ?_
  obtain ⟨h_18, eh_18, hf⟩ := x_bind hf
  refine sh_newa (tg := 13) (n := 2) (v := (.int 0)) i140_74 (fun _ _ _ => rfl) eh_18 ?_
  obtain ⟨h_19, eh_19, hf⟩ := x_bind hf
  refine sh_put i140_76 f140_35 (by decide) rfl eh_19 ?_
  refine sh_aload (i' := 0) (n := 1) i140_79 (Or.inr ⟨rfl, by decide⟩) rfl ?_
  refine ev_do i140_80 rfl ?_
  obtain ⟨h_20, eh_20, hf⟩ := x_bind hf
  refine sh_newa (tg := 13) (n := 2) (v := (.int 0)) i140_83 (fun _ _ _ => rfl) eh_20 ?_
  obtain ⟨h_21, eh_21, hf⟩ := x_bind hf
  refine sh_put i140_85 f140_38 (by decide) rfl eh_21 ?_
  refine sh_aload (i' := 0) (n := 1) i140_88 (Or.inr ⟨rfl, by decide⟩) rfl ?_
  refine ev_do i140_89 rfl ?_
  obtain ⟨h_22, eh_22, hf⟩ := x_bind hf
  refine sh_newa (tg := 13) (n := 2) (v := (.int 0)) i140_92 (fun _ _ _ => rfl) eh_22 ?_
  obtain ⟨h_23, eh_23, hf⟩ := x_bind hf
  refine sh_put i140_94 f140_41 (by decide) rfl eh_23 ?_
  refine sh_aload (i' := 0) (n := 1) i140_97 (Or.inr ⟨rfl, by decide⟩) rfl ?_
  refine ev_do i140_98 rfl ?_
  obtain ⟨h_24, eh_24, hf⟩ := x_bind hf
  refine sh_newa (tg := 13) (n := 2) (v := (.int 0)) i140_100 (fun _ _ _ => rfl) eh_24 ?_
  obtain ⟨h_25, eh_25, hf⟩ := x_bind hf
  refine sh_put i140_102 f140_44 (by decide) rfl eh_25 ?_
  refine sh_aload (i' := 0) (n := 1) i140_105 (Or.inr ⟨rfl, by decide⟩) rfl ?_
  refine ev_do i140_106 rfl ?_
  obtain ⟨h_26, eh_26, hf⟩ := x_bind hf
  refine sh_newa (tg := 13) (n := 2) (v := (.int 0)) i140_108 (fun _ _ _ => rfl) eh_26 ?_
  obtain ⟨h_27, eh_27, hf⟩ := x_bind hf
  refine sh_put i140_110 f140_47 (by decide) rfl eh_27 ?_
  refine sh_aload (i' := 0) (n := 1) i140_113 (Or.inr ⟨rfl, by decide⟩) rfl ?_
  refine ev_do i140_114 rfl ?_
  obtain ⟨h_28, eh_28, hf⟩ := x_bind hf
  refine sh_newa (tg := 13) (n := 2) (v := (.int 0)) i140_116 (fun _ _ _ => rfl) eh_28 ?_
  obtain ⟨h_29, eh_29, hf⟩ := x_bind hf
  refine sh_put i140_118 f140_50 (by decide) rfl eh_29 ?_
  refine sh_aload (i' := 0) (n := 1) i140_121 (Or.inr ⟨rfl, by decide⟩) rfl ?_
  refine ev_do i140_122 rfl ?_
  obtain ⟨h_30, eh_30, hf⟩ := x_bind hf
  refine sh_newa (tg := 13) (n := 2) (v := (.int 0)) i140_125 (fun _ _ _ => rfl) eh_30 ?_
  obtain ⟨h_31, eh_31, hf⟩ := x_bind hf
  refine sh_put i140_127 f140_53 (by decide) rfl eh_31 ?_
  refine sh_aload (i' := 0) (n := 1) i140_130 (Or.inr ⟨rfl, by decide⟩) rfl ?_
  refine ev_do i140_131 rfl ?_
  obtain ⟨h_32, eh_32, hf⟩ := x_bind hf
  refine sh_newa (tg := 13) (n := 2) (v := (.int 0)) i140_134 (fun _ _ _ => rfl) eh_32 ?_
  obtain ⟨h_33, eh_33, hf⟩ := x_bind hf
  refine sh_put i140_136 f140_56 (by decide) rfl eh_33 ?_
  refine sh_aload (i' := 0) (n := 1) i140_139 (Or.inr ⟨rfl, by decide⟩) rfl ?_
  refine ev_do i140_140 rfl ?_
  obtain ⟨h_34, eh_34, hf⟩ := x_bind hf
  refine sh_newa (tg := 13) (n := 2) (v := (.int 0)) i140_143 (fun _ _ _ => rfl) eh_34 ?_
  obtain ⟨h_35, eh_35, hf⟩ := x_bind hf
  refine sh_put i140_145 f140_59 (by decide) rfl eh_35 ?_
  refine sh_aload (i' := 0) (n := 1) i140_148 (Or.inr ⟨rfl, by decide⟩) rfl ?_
  refine ev_do i140_149 rfl ?_
  obtain ⟨h_36, eh_36, hf⟩ := x_bind hf
  refine sh_newa (tg := 13) (n := 2) (v := (.int 0)) i140_152 (fun _ _ _ => rfl) eh_36 ?_
  obtain ⟨h_37, eh_37, hf⟩ := x_bind hf
  refine sh_put i140_154 f140_62 (by decide) rfl eh_37 ?_
  refine sh_aload (i' := 0) (n := 1) i140_157 (Or.inr ⟨rfl, by decide⟩) rfl ?_
  refine ev_do i140_158 rfl ?_
  obtain ⟨h_38, eh_38, hf⟩ := x_bind hf
  refine sh_newa (tg := 13) (n := 2) (v := (.int 0)) i140_161 (fun _ _ _ => rfl) eh_38 ?_
  obtain ⟨h_39, eh_39, hf⟩ := x_bind hf
  refine sh_put i140_163 f140_65 (by decide) rfl eh_39 ?_
  refine sh_aload (i' := 0) (n := 1) i140_166 (Or.inr ⟨rfl, by decide⟩) rfl ?_
  refine ev_do i140_167 rfl ?_
  obtain ⟨h_40, eh_40, hf⟩ := x_bind hf
  refine sh_newa (tg := 13) (n := 2) (v := (.int 0)) i140_170 (fun _ _ _ => rfl) eh_40 ?_
  obtain ⟨h_41, eh_41, hf⟩ := x_bind hf
  refine sh_put i140_172 f140_68 (by decide) rfl eh_41 ?_
  refine sh_aload (i' := 0) (n := 1) i140_175 (Or.inr ⟨rfl, by decide⟩) rfl ?_
  refine ev_do i140_176 rfl ?_
  obtain ⟨h_42, eh_42, hf⟩ := x_bind hf
  refine sh_newa (tg := 13) (n := 2) (v := (.int 0)) i140_179 (fun _ _ _ => rfl) eh_42 ?_
  obtain ⟨h_43, eh_43, hf⟩ := x_bind hf
  refine sh_put i140_181 f140_71 (by decide) rfl eh_43 ?_
  refine sh_aload (i' := 0) (n := 1) i140_184 (Or.inr ⟨rfl, by decide⟩) rfl ?_
  refine ev_do i140_185 rfl ?_
  obtain ⟨h_44, eh_44, hf⟩ := x_bind hf
  refine sh_newa (tg := 14) (n := 2) (v := (.int 0)) i140_188 (fun _ _ _ => rfl) eh_44 ?_
  obtain ⟨h_45, eh_45, hf⟩ := x_bind hf
  refine sh_put i140_190 f140_74 (by decide) rfl eh_45 ?_
  refine sh_aload (i' := 0) (n := 1) i140_193 (Or.inr ⟨rfl, by decide⟩) rfl ?_
  refine ev_do i140_194 rfl ?_
  obtain ⟨h_46, eh_46, hf⟩ := x_bind hf
  refine sh_newa (tg := 13) (n := 2) (v := (.int 0)) i140_197 (fun _ _ _ => rfl) eh_46 ?_
  obtain ⟨h_47, eh_47, hf⟩ := x_bind hf
  refine sh_put i140_199 f140_77 (by decide) rfl eh_47 ?_
  refine sh_aload (i' := 0) (n := 1) i140_202 (Or.inr ⟨rfl, by decide⟩) rfl ?_
  refine ev_do i140_203 rfl ?_
  obtain ⟨h_48, eh_48, hf⟩ := x_bind hf
  refine sh_newa (tg := 13) (n := 2) (v := (.int 0)) i140_206 (fun _ _ _ => rfl) eh_48 ?_
  obtain ⟨h_49, eh_49, hf⟩ := x_bind hf
  refine sh_put i140_208 f140_80 (by decide) rfl eh_49 ?_
  refine sh_aload (i' := 0) (n := 1) i140_211 (Or.inr ⟨rfl, by decide⟩) rfl ?_
  refine ev_do i140_212 rfl ?_
  obtain ⟨h_50, eh_50, hf⟩ := x_bind hf
  refine sh_newa (tg := 13) (n := 2) (v := (.int 0)) i140_215 (fun _ _ _ => rfl) eh_50 ?_
  obtain ⟨h_51, eh_51, hf⟩ := x_bind hf
  refine sh_put i140_217 f140_83 (by decide) rfl eh_51 ?_
  refine sh_aload (i' := 0) (n := 1) i140_220 (Or.inr ⟨rfl, by decide⟩) rfl ?_
  refine ev_do i140_221 rfl ?_
  obtain ⟨h_52, eh_52, hf⟩ := x_bind hf
  refine sh_newa (tg := 13) (n := 2) (v := (.int 0)) i140_224 (fun _ _ _ => rfl) eh_52 ?_
  obtain ⟨h_53, eh_53, hf⟩ := x_bind hf
  refine sh_put i140_226 f140_86 (by decide) rfl eh_53 ?_
  refine sh_aload (i' := 0) (n := 1) i140_229 (Or.inr ⟨rfl, by decide⟩) rfl ?_
  refine ev_do i140_230 rfl ?_
  obtain ⟨h_54, eh_54, hf⟩ := x_bind hf
  refine sh_newa (tg := 14) (n := 2) (v := (.int 0)) i140_233 (fun _ _ _ => rfl) eh_54 ?_
  obtain ⟨h_55, eh_55, hf⟩ := x_bind hf
  refine sh_put i140_235 f140_89 (by decide) rfl eh_55 ?_
  refine sh_aload (i' := 0) (n := 1) i140_238 (Or.inr ⟨rfl, by decide⟩) rfl ?_
  refine ev_do i140_239 rfl ?_
  obtain ⟨h_56, eh_56, hf⟩ := x_bind hf
  refine sh_newa (tg := 13) (n := 2) (v := (.int 0)) i140_242 (fun _ _ _ => rfl) eh_56 ?_
  obtain ⟨h_57, eh_57, hf⟩ := x_bind hf
  refine sh_put i140_244 f140_92 (by decide) rfl eh_57 ?_
  refine sh_aload (i' := 0) (n := 1) i140_247 (Or.inr ⟨rfl, by decide⟩) rfl ?_
  refine ev_do i140_248 rfl ?_
  obtain ⟨h_58, eh_58, hf⟩ := x_bind hf
  refine sh_newa (tg := 13) (n := 2) (v := (.int 0)) i140_251 (fun _ _ _ => rfl) eh_58 ?_
  obtain ⟨h_59, eh_59, hf⟩ := x_bind hf
  refine sh_put i140_253 f140_95 (by decide) rfl eh_59 ?_
  refine sh_aload (i' := 0) (n := 1) i140_256 (Or.inr ⟨rfl, by decide⟩) rfl ?_
  refine ev_do i140_257 rfl ?_
  obtain ⟨h_60, eh_60, hf⟩ := x_bind hf
  refine sh_newa (tg := 13) (n := 2) (v := (.int 0)) i140_260 (fun _ _ _ => rfl) eh_60 ?_
  obtain ⟨h_61, eh_61, hf⟩ := x_bind hf
  refine sh_put i140_262 f140_98 (by decide) rfl eh_61 ?_
  refine sh_aload (i' := 0) (n := 1) i140_265 (Or.inr ⟨rfl, by decide⟩) rfl ?_
  refine ev_do i140_266 rfl ?_
  obtain ⟨h_62, eh_62, hf⟩ := x_bind hf
  refine sh_newa (tg := 13) (n := 2) (v := (.int 0)) i140_269 (fun _ _ _ => rfl) eh_62 ?_
  obtain ⟨h_63, eh_63, hf⟩ := x_bind hf
  refine sh_put i140_271 f140_101 (by decide) rfl eh_63 ?_
  refine sh_aload (i' := 0) (n := 1) i140_274 (Or.inr ⟨rfl, by decide⟩) rfl ?_
  refine ev_do i140_275 rfl ?_
  obtain ⟨h_64, eh_64, hf⟩ := x_bind hf
  refine sh_newa (tg := 13) (n := 2) (v := (.int 0)) i140_277 (fun _ _ _ => rfl) eh_64 ?_
  obtain ⟨h_65, eh_65, hf⟩ := x_bind hf
  refine sh_put i140_279 f140_104 (by decide) rfl eh_65 ?_
  refine sh_aload (i' := 0) (n := 1) i140_282 (Or.inr ⟨rfl, by decide⟩) rfl ?_
  refine ev_do i140_283 rfl ?_
  obtain ⟨h_66, eh_66, hf⟩ := x_bind hf
  refine sh_newa (tg := 13) (n := 2) (v := (.int 0)) i140_286 (fun _ _ _ => rfl) eh_66 ?_
  obtain ⟨h_67, eh_67, hf⟩ := x_bind hf
  refine sh_put i140_288 f140_107 (by decide) rfl eh_67 ?_
  refine sh_aload (i' := 0) (n := 1) i140_291 (Or.inr ⟨rfl, by decide⟩) rfl ?_
  refine ev_do i140_292 rfl ?_
  obtain ⟨h_68, eh_68, hf⟩ := x_bind hf
  refine sh_newa (tg := 13) (n := 2) (v := (.int 0)) i140_295 (fun _ _ _ => rfl) eh_68 ?_
  obtain ⟨h_69, eh_69, hf⟩ := x_bind hf
  refine sh_put i140_297 f140_110 (by decide) rfl eh_69 ?_
  refine sh_aload (i' := 0) (n := 1) i140_300 (Or.inr ⟨rfl, by decide⟩) rfl ?_
  refine ev_do i140_301 rfl ?_
  obtain ⟨h_70, eh_70, hf⟩ := x_bind hf
  refine sh_newa (tg := 13) (n := 2) (v := (.int 0)) i140_303 (fun _ _ _ => rfl) eh_70 ?_
  obtain ⟨h_71, eh_71, hf⟩ := x_bind hf
  refine sh_put i140_305 f140_113 (by decide) rfl eh_71 ?_
  refine sh_aload (i' := 0) (n := 1) i140_308 (Or.inr ⟨rfl, by decide⟩) rfl ?_
  refine ev_do i140_309 rfl ?_
  obtain ⟨h_72, eh_72, hf⟩ := x_bind hf
  refine sh_newa (tg := 13) (n := 2) (v := (.int 0)) i140_312 (fun _ _ _ => rfl) eh_72 ?_
  obtain ⟨h_73, eh_73, hf⟩ := x_bind hf
  refine sh_put i140_314 f140_116 (by decide) rfl eh_73 ?_
  refine sh_aload (i' := 0) (n := 1) i140_317 (Or.inr ⟨rfl, by decide⟩) rfl ?_
  refine ev_do i140_318 rfl ?_
  obtain ⟨h_74, eh_74, hf⟩ := x_bind hf
  refine sh_newa (tg := 13) (n := 2) (v := (.int 0)) i140_321 (fun _ _ _ => rfl) eh_74 ?_
  obtain ⟨h_75, eh_75, hf⟩ := x_bind hf
  refine sh_put i140_323 f140_119 (by decide) rfl eh_75 ?_
  refine sh_aload (i' := 0) (n := 1) i140_326 (Or.inr ⟨rfl, by decide⟩) rfl ?_
  refine ev_do i140_327 rfl ?_
  obtain ⟨h_76, eh_76, hf⟩ := x_bind hf
  refine sh_newa (tg := 13) (n := 2) (v := (.int 0)) i140_330 (fun _ _ _ => rfl) eh_76 ?_
  obtain ⟨h_77, eh_77, hf⟩ := x_bind hf
  refine sh_put i140_332 f140_122 (by decide) rfl eh_77 ?_
  refine sh_aload (i' := 0) (n := 1) i140_335 (Or.inr ⟨rfl, by decide⟩) rfl ?_
  refine ev_do i140_336 rfl ?_
  obtain ⟨h_78, eh_78, hf⟩ := x_bind hf
  refine sh_newa (tg := 13) (n := 2) (v := (.int 0)) i140_339 (fun _ _ _ => rfl) eh_78 ?_
  obtain ⟨h_79, eh_79, hf⟩ := x_bind hf
  refine sh_put i140_341 f140_125 (by decide) rfl eh_79 ?_
  refine sh_aload (i' := 0) (n := 1) i140_344 (Or.inr ⟨rfl, by decide⟩) rfl ?_
  refine ev_do i140_345 rfl ?_
  obtain ⟨h_80, eh_80, hf⟩ := x_bind hf
  refine sh_newa (tg := 13) (n := 2) (v := (.int 0)) i140_348 (fun _ _ _ => rfl) eh_80 ?_
  obtain ⟨h_81, eh_81, hf⟩ := x_bind hf
  refine sh_put i140_350 f140_128 (by decide) rfl eh_81 ?_
  refine sh_aload (i' := 0) (n := 1) i140_353 (Or.inr ⟨rfl, by decide⟩) rfl ?_
  refine ev_do i140_354 rfl ?_
  obtain ⟨h_82, eh_82, hf⟩ := x_bind hf
  refine sh_newa (tg := 13) (n := 2) (v := (.int 0)) i140_357 (fun _ _ _ => rfl) eh_82 ?_
  obtain ⟨h_83, eh_83, hf⟩ := x_bind hf
  refine sh_put i140_359 f140_131 (by decide) rfl eh_83 ?_
  refine sh_aload (i' := 0) (n := 1) i140_362 (Or.inr ⟨rfl, by decide⟩) rfl ?_
  refine ev_do i140_363 rfl ?_
  obtain ⟨h_84, eh_84, hf⟩ := x_bind hf
  refine sh_newa (tg := 13) (n := 2) (v := (.int 0)) i140_365 (fun _ _ _ => rfl) eh_84 ?_
  obtain ⟨h_85, eh_85, hf⟩ := x_bind hf
  refine sh_put i140_367 f140_134 (by decide) rfl eh_85 ?_
  refine sh_aload (i' := 0) (n := 1) i140_370 (Or.inr ⟨rfl, by decide⟩) rfl ?_
  refine ev_do i140_371 rfl ?_
  obtain ⟨h_86, eh_86, hf⟩ := x_bind hf
  refine sh_newa (tg := 13) (n := 2) (v := (.int 0)) i140_373 (fun _ _ _ => rfl) eh_86 ?_
  obtain ⟨h_87, eh_87, hf⟩ := x_bind hf
  refine sh_put i140_375 f140_137 (by decide) rfl eh_87 ?_
  refine sh_aload (i' := 0) (n := 1) i140_378 (Or.inr ⟨rfl, by decide⟩) rfl ?_
  refine ev_do i140_379 rfl ?_
  obtain ⟨h_88, eh_88, hf⟩ := x_bind hf
  refine sh_newa (tg := 13) (n := 2) (v := (.int 0)) i140_382 (fun _ _ _ => rfl) eh_88 ?_
  obtain ⟨h_89, eh_89, hf⟩ := x_bind hf
  refine sh_put i140_384 f140_140 (by decide) rfl eh_89 ?_
  refine sh_aload (i' := 0) (n := 1) i140_387 (Or.inr ⟨rfl, by decide⟩) rfl ?_
  refine ev_do i140_388 rfl ?_
  obtain ⟨h_90, eh_90, hf⟩ := x_bind hf
  refine sh_newa (tg := 13) (n := 2) (v := (.int 0)) i140_391 (fun _ _ _ => rfl) eh_90 ?_
  obtain ⟨h_91, eh_91, hf⟩ := x_bind hf
  refine sh_put i140_393 f140_143 (by decide) rfl eh_91 ?_
  obtain rfl := Option.some.inj hf
  exact sh_vret i140_396 m140 rfl
end
section
def j141_15  (x0 : Int32) (x1 : Int32) (x2 : Int32) (s0 : Int32) (h : xH) : Option (Int32 × xH) := (if s0 &&& 1 = s0 then some (s0, h) else none)
theorem j141_15_ok {xs : List Int32} {d : Nat} (hd : 1 ≤ d) {x0 : Int32} {x1 : Int32} {x2 : Int32} {s0 : Int32} {h : xH} {r : (Int32 × xH)} (hf : j141_15 x0 x1 x2 s0 h = some r) : xEv (xTa xs) d 141 (15, [.int x0, .int x1, .int x2], [.int s0], h) (some (.int r.1), r.2) := by
  unfold j141_15 at hf
  by_cases c_1 : s0 &&& 1 = s0
  · replace hf := x_pos c_1 hf
    obtain rfl := Option.some.inj hf
    exact sh_iret i141_15 m141 rfl (congrArg Value.int c_1)
  · replace hf := x_neg c_1 hf
    cases hf
def j141_14  (x0 : Int32) (x1 : Int32) (x2 : Int32) (h : xH) : Option (Int32 × xH) := j141_15 x0 x1 x2 0 h
theorem j141_14_ok {xs : List Int32} {d : Nat} (hd : 1 ≤ d) {x0 : Int32} {x1 : Int32} {x2 : Int32} {h : xH} {r : (Int32 × xH)} (hf : j141_14 x0 x1 x2 h = some r) : xEv (xTa xs) d 141 (14, [.int x0, .int x1, .int x2], [], h) (some (.int r.1), r.2) := by
  unfold j141_14 at hf
  refine ev_do i141_14 rfl ?_
  exact j141_15_ok hd hf
def fn141 (x0 : Int32) (x1 : Int32) (x2 : Int32) (h : xH) : Option (Int32 × xH) := (if x0 < x1 then j141_14 x0 x1 x2 h else (if x2 < x0 then j141_14 x0 x1 x2 h else j141_15 x0 x1 x2 1 h))
theorem fn141_call {xs : List Int32} {d : Nat} (hd : 2 ≤ d) {x0 : Int32} {x1 : Int32} {x2 : Int32} {h : xH} {r : (Int32 × xH)} (hf : fn141 x0 x1 x2 h = some r) : xCall (xTa xs) d 141 [.int x0, .int x1, .int x2] h (some (.int r.1), r.2) := by
  obtain ⟨d, rfl⟩ : ∃ d2, d = d2 + 1 := ⟨d - 1, by omega⟩
  replace hd : 1 ≤ d := by omega
  refine call_of2 (fl := [.int x0, .int x1, .int x2]) (Ls := [.int x0, .int x1, .int x2]) m141 (by simp [xfl, xrv_cat, xc_i, xc_j, xc_a, xc_f]) (Nat.le_of_ble_eq_true rfl) rfl ?_
  unfold fn141 at hf
  refine ev_do i141_0 rfl ?_
  refine ev_do i141_1 rfl ?_
  refine ev_icmp (t := 14) i141_2 rfl (fun c_1 => ?_) (fun c_1 => ?_)
  · replace hf := x_pos (show x0 < x1 from c_1) hf
    exact j141_14_ok hd hf
  · replace hf := x_neg (show ¬ x0 < x1 from c_1) hf
    refine ev_do i141_5 rfl ?_
    refine ev_do i141_6 rfl ?_
    refine ev_icmp (t := 14) i141_7 rfl (fun c_2 => ?_) (fun c_2 => ?_)
    · replace hf := x_pos (show x2 < x0 from c_2) hf
      exact j141_14_ok hd hf
    · replace hf := x_neg (show ¬ x2 < x0 from c_2) hf
      refine ev_do i141_10 rfl ?_
      refine sh_goto (t := 15) i141_11 rfl ?_
      exact j141_15_ok hd hf
end
section
def l142_3  : Nat → Option Nat → Int32 → Int32 → xH → Option xH
  | 0 => fun _ _ _ _ => none
  | n + 1 => fun o0 x1 x2 h => (if x2 < 0 then some h else (xgR h o0 11 0).bind fun a_2 => (xgI h o0 11 1).bind fun v_3 => (xaS h 13 (fun x => x) a_2 v_3 ((x1 >>> (x2 &&& 31)) &&& 255)).bind fun h_4 => (xgI h_4 o0 11 1).bind fun v_5 => (xpF h_4 o0 11 1 .int (.int (v_5 + 1))).bind fun h_6 => l142_3 n o0 x1 (x2 + (-8)) h_6)
theorem l142_3_ok {xs : List Int32} {d : Nat} (hd : 1 ≤ d) : ∀ (n : Nat) {o0 : Option Nat} {x1 : Int32} {x2 : Int32} {h : xH} {r : xH}, l142_3 n o0 x1 x2 h = some r → xEv (xTa xs) d 142 (3, [xrv o0, .int x1, .int x2], [], h) (none, r) := by
  intro n
  induction n with
  | zero => intros; rename_i hf; cases hf
  | succ n ih =>
    intro o0 x1 x2 h r hf
    replace hf : ((if x2 < 0 then some h else (xgR h o0 11 0).bind fun a_2 => (xgI h o0 11 1).bind fun v_3 => (xaS h 13 (fun x => x) a_2 v_3 ((x1 >>> (x2 &&& 31)) &&& 255)).bind fun h_4 => (xgI h_4 o0 11 1).bind fun v_5 => (xpF h_4 o0 11 1 .int (.int (v_5 + 1))).bind fun h_6 => l142_3 n o0 x1 (x2 + (-8)) h_6)) = some r := hf
    refine ev_do i142_3 rfl ?_
    refine ev_if (t := 39) i142_4 rfl (fun c_1 => ?_) (fun c_1 => ?_)
    · replace hf := x_pos (show x2 < 0 from c_1) hf
      obtain rfl := Option.some.inj hf
      exact sh_vret i142_39 m142 rfl
    · replace hf := x_neg (show ¬ x2 < 0 from c_1) hf
      refine sh_aload (i' := 0) (n := 1) i142_7 (Or.inr ⟨rfl, by decide⟩) rfl ?_
      obtain ⟨a_2, ea_2, hf⟩ := x_bind hf
      refine sh_getR i142_8 f142_9 ea_2 ?_
      refine sh_aload (i' := 0) (n := 1) i142_11 (Or.inr ⟨rfl, by decide⟩) rfl ?_
      obtain ⟨v_3, ev_3, hf⟩ := x_bind hf
      refine sh_getI i142_12 f142_146 ev_3 ?_
      refine ev_do i142_15 rfl ?_
      refine ev_do i142_16 rfl ?_
      refine ev_do i142_17 rfl ?_
      refine ev_do i142_18 rfl ?_
      refine ev_do i142_21 rfl ?_
      obtain ⟨h_4, eh_4, hf⟩ := x_bind hf
      refine sh_ast (tg := 13) i142_22 (Or.inl ⟨rfl, rfl, rfl⟩) eh_4 ?_
      refine sh_aload (i' := 0) (n := 1) i142_23 (Or.inr ⟨rfl, by decide⟩) rfl ?_
      refine sh_dup i142_24 (xrv_cat (o0)) ?_
      obtain ⟨v_5, ev_5, hf⟩ := x_bind hf
      refine sh_getI i142_25 f142_146 ev_5 ?_
      refine ev_do i142_28 rfl ?_
      refine ev_do i142_29 rfl ?_
      obtain ⟨h_6, eh_6, hf⟩ := x_bind hf
      refine sh_put i142_30 f142_146 (by decide) rfl eh_6 ?_
      refine sh_inc (i' := 2) i142_33 rfl (xokst_of (Nat.le_of_ble_eq_true rfl) rfl) rfl ?_
      refine sh_goto (t := 3) i142_36 rfl ?_
      exact ih hf
def fn142 (o0 : Option Nat) (x1 : Int32) (h : xH) : Option xH := l142_3 xFuel o0 x1 24 h
theorem fn142_call {xs : List Int32} {d : Nat} (hd : 2 ≤ d) {o0 : Option Nat} {x1 : Int32} {h : xH} {r : xH} (hf : fn142 o0 x1 h = some r) : xCall (xTa xs) d 142 [xrv o0, .int x1] h (none, r) := by
  obtain ⟨d, rfl⟩ : ∃ d2, d = d2 + 1 := ⟨d - 1, by omega⟩
  replace hd : 1 ≤ d := by omega
  refine call_of2 (fl := [xrv o0, .int x1]) (Ls := [xrv o0, .int x1, .float 0]) m142 (by simp [xfl, xrv_cat, xc_i, xc_j, xc_a, xc_f]) (Nat.le_of_ble_eq_true rfl) rfl ?_
  unfold fn142 at hf
  refine ev_do i142_0 rfl ?_
  refine sh_istore (i' := 2) (n := 1) i142_2 (Or.inr ⟨rfl, by decide⟩) (xokst_of (Nat.le_of_ble_eq_true rfl) rfl) ?_
  exact l142_3_ok hd xFuel hf
end
section
def fn143 (o0 : Option Nat) (x1 : Int32) (x2 : Int32) (x3 : Int32) (x4 : Int32) (x5 : Int32) (h : xH) : Option (Int32 × xH) := (xgI h o0 11 1).bind fun v_1 => (if (v_1 + 20) ≤ 600 then (xcv h o0 11).bind fun _ => (fn142 o0 x1 h).bind fun h_3 => (xcv h_3 o0 11).bind fun _ => (fn142 o0 x2 h_3).bind fun h_4 => (xcv h_4 o0 11).bind fun _ => (fn142 o0 x3 h_4).bind fun h_5 => (xcv h_5 o0 11).bind fun _ => (fn142 o0 x4 h_5).bind fun h_6 => (xcv h_6 o0 11).bind fun _ => (fn142 o0 x5 h_6).bind fun h_7 => (xgI h_7 o0 11 1).bind fun v_8 => some (v_8, h_7) else some ((-3), h))
theorem fn143_call {xs : List Int32} {d : Nat} (hd : 3 ≤ d) {o0 : Option Nat} {x1 : Int32} {x2 : Int32} {x3 : Int32} {x4 : Int32} {x5 : Int32} {h : xH} {r : (Int32 × xH)} (hf : fn143 o0 x1 x2 x3 x4 x5 h = some r) : xCall (xTa xs) d 143 [xrv o0, .int x1, .int x2, .int x3, .int x4, .int x5] h (some (.int r.1), r.2) := by
  obtain ⟨d, rfl⟩ : ∃ d2, d = d2 + 1 := ⟨d - 1, by omega⟩
  replace hd : 2 ≤ d := by omega
  refine call_of2 (fl := [xrv o0, .int x1, .int x2, .int x3, .int x4, .int x5]) (Ls := [xrv o0, .int x1, .int x2, .int x3, .int x4, .int x5]) m143 (by simp [xfl, xrv_cat, xc_i, xc_j, xc_a, xc_f]) (Nat.le_of_ble_eq_true rfl) rfl ?_
  unfold fn143 at hf
  refine sh_aload (i' := 0) (n := 1) i143_0 (Or.inr ⟨rfl, by decide⟩) rfl ?_
  obtain ⟨v_1, ev_1, hf⟩ := x_bind hf
  refine sh_getI i143_1 f143_146 ev_1 ?_
  refine ev_do i143_4 rfl ?_
  refine ev_do i143_6 rfl ?_
  refine ev_do i143_7 rfl ?_
  refine ev_icmp (t := 16) i143_10 rfl (fun c_2 => ?_) (fun c_2 => ?_)
  · replace hf := x_pos (show (v_1 + 20) ≤ 600 from c_2) hf
    refine sh_aload (i' := 0) (n := 1) i143_16 (Or.inr ⟨rfl, by decide⟩) rfl ?_
    refine ev_do i143_17 rfl ?_
    obtain ⟨_, eu_13, hf⟩ := x_bind hf
    obtain ⟨h_3, eh_3, hf⟩ := x_bind hf
    refine sh_inv (as := [.int x1]) (z := (none, h_3)) i143_18 v143_150 (Or.inl ⟨by decide, rfl⟩) m142 rfl (Nat.le_of_ble_eq_true rfl) eu_13 (fn142_call (by omega) eh_3) ?_
    refine sh_aload (i' := 0) (n := 1) i143_21 (Or.inr ⟨rfl, by decide⟩) rfl ?_
    refine ev_do i143_22 rfl ?_
    obtain ⟨_, eu_12, hf⟩ := x_bind hf
    obtain ⟨h_4, eh_4, hf⟩ := x_bind hf
    refine sh_inv (as := [.int x2]) (z := (none, h_4)) i143_23 v143_150 (Or.inl ⟨by decide, rfl⟩) m142 rfl (Nat.le_of_ble_eq_true rfl) eu_12 (fn142_call (by omega) eh_4) ?_
    refine sh_aload (i' := 0) (n := 1) i143_26 (Or.inr ⟨rfl, by decide⟩) rfl ?_
    refine ev_do i143_27 rfl ?_
    obtain ⟨_, eu_11, hf⟩ := x_bind hf
    obtain ⟨h_5, eh_5, hf⟩ := x_bind hf
    refine sh_inv (as := [.int x3]) (z := (none, h_5)) i143_28 v143_150 (Or.inl ⟨by decide, rfl⟩) m142 rfl (Nat.le_of_ble_eq_true rfl) eu_11 (fn142_call (by omega) eh_5) ?_
    refine sh_aload (i' := 0) (n := 1) i143_31 (Or.inr ⟨rfl, by decide⟩) rfl ?_
    refine ev_do i143_32 rfl ?_
    obtain ⟨_, eu_10, hf⟩ := x_bind hf
    obtain ⟨h_6, eh_6, hf⟩ := x_bind hf
    refine sh_inv (as := [.int x4]) (z := (none, h_6)) i143_34 v143_150 (Or.inl ⟨by decide, rfl⟩) m142 rfl (Nat.le_of_ble_eq_true rfl) eu_10 (fn142_call (by omega) eh_6) ?_
    refine sh_aload (i' := 0) (n := 1) i143_37 (Or.inr ⟨rfl, by decide⟩) rfl ?_
    refine ev_do i143_38 rfl ?_
    obtain ⟨_, eu_9, hf⟩ := x_bind hf
    obtain ⟨h_7, eh_7, hf⟩ := x_bind hf
    refine sh_inv (as := [.int x5]) (z := (none, h_7)) i143_40 v143_150 (Or.inl ⟨by decide, rfl⟩) m142 rfl (Nat.le_of_ble_eq_true rfl) eu_9 (fn142_call (by omega) eh_7) ?_
    refine sh_aload (i' := 0) (n := 1) i143_43 (Or.inr ⟨rfl, by decide⟩) rfl ?_
    obtain ⟨v_8, ev_8, hf⟩ := x_bind hf
    refine sh_getI i143_44 f143_146 ev_8 ?_
    obtain rfl := Option.some.inj hf
    exact sh_iret i143_47 m143 rfl rfl
  · replace hf := x_neg (show ¬ (v_1 + 20) ≤ 600 from c_2) hf
    refine ev_do i143_13 rfl ?_
    obtain rfl := Option.some.inj hf
    exact sh_iret i143_15 m143 rfl rfl
end
section
def fn144 (o0 : Option Nat) (x1 : Int32) (h : xH) : Option (Int32 × xH) := (xgI h o0 11 1).bind fun v_1 => (fn141 x1 0 v_1 h).bind fun r_2 => (if r_2.1 = 0 then some ((-1), r_2.2) else (xgI r_2.2 o0 11 1).bind fun v_4 => (xpF r_2.2 o0 11 1 .int (.int x1)).bind fun h_5 => some (v_4, h_5))
theorem fn144_call {xs : List Int32} {d : Nat} (hd : 3 ≤ d) {o0 : Option Nat} {x1 : Int32} {h : xH} {r : (Int32 × xH)} (hf : fn144 o0 x1 h = some r) : xCall (xTa xs) d 144 [xrv o0, .int x1] h (some (.int r.1), r.2) := by
  obtain ⟨d, rfl⟩ : ∃ d2, d = d2 + 1 := ⟨d - 1, by omega⟩
  replace hd : 2 ≤ d := by omega
  refine call_of2 (fl := [xrv o0, .int x1]) (Ls := [xrv o0, .int x1, .float 0]) m144 (by simp [xfl, xrv_cat, xc_i, xc_j, xc_a, xc_f]) (Nat.le_of_ble_eq_true rfl) rfl ?_
  unfold fn144 at hf
  refine ev_do i144_0 rfl ?_
  refine ev_do i144_1 rfl ?_
  refine sh_aload (i' := 0) (n := 1) i144_2 (Or.inr ⟨rfl, by decide⟩) rfl ?_
  obtain ⟨v_1, ev_1, hf⟩ := x_bind hf
  refine sh_getI i144_3 f144_146 ev_1 ?_
  obtain ⟨r_2, er_2, hf⟩ := x_bind hf
  refine ev_sta (as := [.int v_1, .int 0, .int x1]) (z := (some (.int r_2.1), r_2.2)) i144_6 v144_154 (Or.inl rfl) m141 rfl (Nat.le_of_ble_eq_true rfl) (fn141_call (by omega) er_2) ?_
  refine ev_if (t := 14) i144_9 rfl (fun c_3 => ?_) (fun c_3 => ?_)
  · replace hf := x_neg (show ¬ r_2.1 = 0 from c_3) hf
    refine sh_aload (i' := 0) (n := 1) i144_14 (Or.inr ⟨rfl, by decide⟩) rfl ?_
    obtain ⟨v_4, ev_4, hf⟩ := x_bind hf
    refine sh_getI i144_15 f144_146 ev_4 ?_
    refine sh_istore (i' := 2) (n := 1) i144_18 (Or.inr ⟨rfl, by decide⟩) (xokst_of (Nat.le_of_ble_eq_true rfl) rfl) ?_
    refine sh_aload (i' := 0) (n := 1) i144_19 (Or.inr ⟨rfl, by decide⟩) rfl ?_
    refine ev_do i144_20 rfl ?_
    obtain ⟨h_5, eh_5, hf⟩ := x_bind hf
    refine sh_put i144_21 f144_146 (by decide) rfl eh_5 ?_
    refine ev_do i144_24 rfl ?_
    obtain rfl := Option.some.inj hf
    exact sh_iret i144_25 m144 rfl rfl
  · replace hf := x_pos (show r_2.1 = 0 from Decidable.byContradiction (fun h9 => c_3 h9)) hf
    refine ev_do i144_12 rfl ?_
    obtain rfl := Option.some.inj hf
    exact sh_iret i144_13 m144 rfl rfl
end
section
def j145_17  (x0 : Int32) (s0 : Int32) (h : xH) : Option (Int32 × xH) := (if s0 &&& 1 = s0 then some (s0, h) else none)
theorem j145_17_ok {xs : List Int32} {d : Nat} (hd : 1 ≤ d) {x0 : Int32} {s0 : Int32} {h : xH} {r : (Int32 × xH)} (hf : j145_17 x0 s0 h = some r) : xEv (xTa xs) d 145 (17, [.int x0], [.int s0], h) (some (.int r.1), r.2) := by
  unfold j145_17 at hf
  by_cases c_1 : s0 &&& 1 = s0
  · replace hf := x_pos c_1 hf
    obtain rfl := Option.some.inj hf
    exact sh_iret i145_17 m145 rfl (congrArg Value.int c_1)
  · replace hf := x_neg c_1 hf
    cases hf
def j145_16  (x0 : Int32) (h : xH) : Option (Int32 × xH) := j145_17 x0 0 h
theorem j145_16_ok {xs : List Int32} {d : Nat} (hd : 1 ≤ d) {x0 : Int32} {h : xH} {r : (Int32 × xH)} (hf : j145_16 x0 h = some r) : xEv (xTa xs) d 145 (16, [.int x0], [], h) (some (.int r.1), r.2) := by
  unfold j145_16 at hf
  refine ev_do i145_16 rfl ?_
  exact j145_17_ok hd hf
def fn145 (x0 : Int32) (h : xH) : Option (Int32 × xH) := (if x0 < 65 then j145_16 x0 h else (if 90 < x0 then j145_16 x0 h else j145_17 x0 1 h))
theorem fn145_call {xs : List Int32} {d : Nat} (hd : 2 ≤ d) {x0 : Int32} {h : xH} {r : (Int32 × xH)} (hf : fn145 x0 h = some r) : xCall (xTa xs) d 145 [.int x0] h (some (.int r.1), r.2) := by
  obtain ⟨d, rfl⟩ : ∃ d2, d = d2 + 1 := ⟨d - 1, by omega⟩
  replace hd : 1 ≤ d := by omega
  refine call_of2 (fl := [.int x0]) (Ls := [.int x0]) m145 (by simp [xfl, xrv_cat, xc_i, xc_j, xc_a, xc_f]) (Nat.le_of_ble_eq_true rfl) rfl ?_
  unfold fn145 at hf
  refine ev_do i145_0 rfl ?_
  refine ev_do i145_1 rfl ?_
  refine ev_icmp (t := 16) i145_3 rfl (fun c_1 => ?_) (fun c_1 => ?_)
  · replace hf := x_pos (show x0 < 65 from c_1) hf
    exact j145_16_ok hd hf
  · replace hf := x_neg (show ¬ x0 < 65 from c_1) hf
    refine ev_do i145_6 rfl ?_
    refine ev_do i145_7 rfl ?_
    refine ev_icmp (t := 16) i145_9 rfl (fun c_2 => ?_) (fun c_2 => ?_)
    · replace hf := x_pos (show 90 < x0 from c_2) hf
      exact j145_16_ok hd hf
    · replace hf := x_neg (show ¬ 90 < x0 from c_2) hf
      refine ev_do i145_12 rfl ?_
      refine sh_goto (t := 17) i145_13 rfl ?_
      exact j145_17_ok hd hf
end
section
def j146_17  (x0 : Int32) (s0 : Int32) (h : xH) : Option (Int32 × xH) := (if s0 &&& 1 = s0 then some (s0, h) else none)
theorem j146_17_ok {xs : List Int32} {d : Nat} (hd : 1 ≤ d) {x0 : Int32} {s0 : Int32} {h : xH} {r : (Int32 × xH)} (hf : j146_17 x0 s0 h = some r) : xEv (xTa xs) d 146 (17, [.int x0], [.int s0], h) (some (.int r.1), r.2) := by
  unfold j146_17 at hf
  by_cases c_1 : s0 &&& 1 = s0
  · replace hf := x_pos c_1 hf
    obtain rfl := Option.some.inj hf
    exact sh_iret i146_17 m146 rfl (congrArg Value.int c_1)
  · replace hf := x_neg c_1 hf
    cases hf
def j146_16  (x0 : Int32) (h : xH) : Option (Int32 × xH) := j146_17 x0 0 h
theorem j146_16_ok {xs : List Int32} {d : Nat} (hd : 1 ≤ d) {x0 : Int32} {h : xH} {r : (Int32 × xH)} (hf : j146_16 x0 h = some r) : xEv (xTa xs) d 146 (16, [.int x0], [], h) (some (.int r.1), r.2) := by
  unfold j146_16 at hf
  refine ev_do i146_16 rfl ?_
  exact j146_17_ok hd hf
def fn146 (x0 : Int32) (h : xH) : Option (Int32 × xH) := (if x0 < 97 then j146_16 x0 h else (if 122 < x0 then j146_16 x0 h else j146_17 x0 1 h))
theorem fn146_call {xs : List Int32} {d : Nat} (hd : 2 ≤ d) {x0 : Int32} {h : xH} {r : (Int32 × xH)} (hf : fn146 x0 h = some r) : xCall (xTa xs) d 146 [.int x0] h (some (.int r.1), r.2) := by
  obtain ⟨d, rfl⟩ : ∃ d2, d = d2 + 1 := ⟨d - 1, by omega⟩
  replace hd : 1 ≤ d := by omega
  refine call_of2 (fl := [.int x0]) (Ls := [.int x0]) m146 (by simp [xfl, xrv_cat, xc_i, xc_j, xc_a, xc_f]) (Nat.le_of_ble_eq_true rfl) rfl ?_
  unfold fn146 at hf
  refine ev_do i146_0 rfl ?_
  refine ev_do i146_1 rfl ?_
  refine ev_icmp (t := 16) i146_3 rfl (fun c_1 => ?_) (fun c_1 => ?_)
  · replace hf := x_pos (show x0 < 97 from c_1) hf
    exact j146_16_ok hd hf
  · replace hf := x_neg (show ¬ x0 < 97 from c_1) hf
    refine ev_do i146_6 rfl ?_
    refine ev_do i146_7 rfl ?_
    refine ev_icmp (t := 16) i146_9 rfl (fun c_2 => ?_) (fun c_2 => ?_)
    · replace hf := x_pos (show 122 < x0 from c_2) hf
      exact j146_16_ok hd hf
    · replace hf := x_neg (show ¬ 122 < x0 from c_2) hf
      refine ev_do i146_12 rfl ?_
      refine sh_goto (t := 17) i146_13 rfl ?_
      exact j146_17_ok hd hf
end
section
def j147_17  (x0 : Int32) (s0 : Int32) (h : xH) : Option (Int32 × xH) := (if s0 &&& 1 = s0 then some (s0, h) else none)
theorem j147_17_ok {xs : List Int32} {d : Nat} (hd : 1 ≤ d) {x0 : Int32} {s0 : Int32} {h : xH} {r : (Int32 × xH)} (hf : j147_17 x0 s0 h = some r) : xEv (xTa xs) d 147 (17, [.int x0], [.int s0], h) (some (.int r.1), r.2) := by
  unfold j147_17 at hf
  by_cases c_1 : s0 &&& 1 = s0
  · replace hf := x_pos c_1 hf
    obtain rfl := Option.some.inj hf
    exact sh_iret i147_17 m147 rfl (congrArg Value.int c_1)
  · replace hf := x_neg c_1 hf
    cases hf
def j147_16  (x0 : Int32) (h : xH) : Option (Int32 × xH) := j147_17 x0 0 h
theorem j147_16_ok {xs : List Int32} {d : Nat} (hd : 1 ≤ d) {x0 : Int32} {h : xH} {r : (Int32 × xH)} (hf : j147_16 x0 h = some r) : xEv (xTa xs) d 147 (16, [.int x0], [], h) (some (.int r.1), r.2) := by
  unfold j147_16 at hf
  refine ev_do i147_16 rfl ?_
  exact j147_17_ok hd hf
def fn147 (x0 : Int32) (h : xH) : Option (Int32 × xH) := (if x0 < 48 then j147_16 x0 h else (if 57 < x0 then j147_16 x0 h else j147_17 x0 1 h))
theorem fn147_call {xs : List Int32} {d : Nat} (hd : 2 ≤ d) {x0 : Int32} {h : xH} {r : (Int32 × xH)} (hf : fn147 x0 h = some r) : xCall (xTa xs) d 147 [.int x0] h (some (.int r.1), r.2) := by
  obtain ⟨d, rfl⟩ : ∃ d2, d = d2 + 1 := ⟨d - 1, by omega⟩
  replace hd : 1 ≤ d := by omega
  refine call_of2 (fl := [.int x0]) (Ls := [.int x0]) m147 (by simp [xfl, xrv_cat, xc_i, xc_j, xc_a, xc_f]) (Nat.le_of_ble_eq_true rfl) rfl ?_
  unfold fn147 at hf
  refine ev_do i147_0 rfl ?_
  refine ev_do i147_1 rfl ?_
  refine ev_icmp (t := 16) i147_3 rfl (fun c_1 => ?_) (fun c_1 => ?_)
  · replace hf := x_pos (show x0 < 48 from c_1) hf
    exact j147_16_ok hd hf
  · replace hf := x_neg (show ¬ x0 < 48 from c_1) hf
    refine ev_do i147_6 rfl ?_
    refine ev_do i147_7 rfl ?_
    refine ev_icmp (t := 16) i147_9 rfl (fun c_2 => ?_) (fun c_2 => ?_)
    · replace hf := x_pos (show 57 < x0 from c_2) hf
      exact j147_16_ok hd hf
    · replace hf := x_neg (show ¬ 57 < x0 from c_2) hf
      refine ev_do i147_12 rfl ?_
      refine sh_goto (t := 17) i147_13 rfl ?_
      exact j147_17_ok hd hf
end
section
def fn148 (o0 : Option Nat) (x1 : Int32) (h : xH) : Option (Int32 × xH) := (xgI h o0 11 2).bind fun v_1 => (fn141 x1 0 (v_1 - 1) h).bind fun r_2 => (if r_2.1 &&& 1 = r_2.1 then some (r_2.1, r_2.2) else none)
theorem fn148_call {xs : List Int32} {d : Nat} (hd : 3 ≤ d) {o0 : Option Nat} {x1 : Int32} {h : xH} {r : (Int32 × xH)} (hf : fn148 o0 x1 h = some r) : xCall (xTa xs) d 148 [xrv o0, .int x1] h (some (.int r.1), r.2) := by
  obtain ⟨d, rfl⟩ : ∃ d2, d = d2 + 1 := ⟨d - 1, by omega⟩
  replace hd : 2 ≤ d := by omega
  refine call_of2 (fl := [xrv o0, .int x1]) (Ls := [xrv o0, .int x1]) m148 (by simp [xfl, xrv_cat, xc_i, xc_j, xc_a, xc_f]) (Nat.le_of_ble_eq_true rfl) rfl ?_
  unfold fn148 at hf
  refine ev_do i148_0 rfl ?_
  refine ev_do i148_1 rfl ?_
  refine sh_aload (i' := 0) (n := 1) i148_2 (Or.inr ⟨rfl, by decide⟩) rfl ?_
  obtain ⟨v_1, ev_1, hf⟩ := x_bind hf
  refine sh_getI i148_3 f148_158 ev_1 ?_
  refine ev_do i148_6 rfl ?_
  refine ev_do i148_7 rfl ?_
  obtain ⟨r_2, er_2, hf⟩ := x_bind hf
  refine ev_sta (as := [.int (v_1 - 1), .int 0, .int x1]) (z := (some (.int r_2.1), r_2.2)) i148_8 v148_154 (Or.inl rfl) m141 rfl (Nat.le_of_ble_eq_true rfl) (fn141_call (by omega) er_2) ?_
  by_cases c_3 : r_2.1 &&& 1 = r_2.1
  · replace hf := x_pos c_3 hf
    obtain rfl := Option.some.inj hf
    exact sh_iret i148_11 m148 rfl (congrArg Value.int c_3)
  · replace hf := x_neg c_3 hf
    cases hf
end
section
def j149_23  (o0 : Option Nat) (x1 : Int32) (x2 : Int32) (s0 : Int32) (h : xH) : Option (Int32 × xH) := (if s0 &&& 1 = s0 then some (s0, h) else none)
theorem j149_23_ok {xs : List Int32} {d : Nat} (hd : 3 ≤ d) {o0 : Option Nat} {x1 : Int32} {x2 : Int32} {s0 : Int32} {h : xH} {r : (Int32 × xH)} (hf : j149_23 o0 x1 x2 s0 h = some r) : xEv (xTa xs) d 149 (23, [xrv o0, .int x1, .int x2], [.int s0], h) (some (.int r.1), r.2) := by
  unfold j149_23 at hf
  by_cases c_1 : s0 &&& 1 = s0
  · replace hf := x_pos c_1 hf
    obtain rfl := Option.some.inj hf
    exact sh_iret i149_23 m149 rfl (congrArg Value.int c_1)
  · replace hf := x_neg c_1 hf
    cases hf
def j149_22  (o0 : Option Nat) (x1 : Int32) (x2 : Int32) (h : xH) : Option (Int32 × xH) := j149_23 o0 x1 x2 0 h
theorem j149_22_ok {xs : List Int32} {d : Nat} (hd : 3 ≤ d) {o0 : Option Nat} {x1 : Int32} {x2 : Int32} {h : xH} {r : (Int32 × xH)} (hf : j149_22 o0 x1 x2 h = some r) : xEv (xTa xs) d 149 (22, [xrv o0, .int x1, .int x2], [], h) (some (.int r.1), r.2) := by
  unfold j149_22 at hf
  refine ev_do i149_22 rfl ?_
  exact j149_23_ok hd hf
def fn149 (o0 : Option Nat) (x1 : Int32) (x2 : Int32) (h : xH) : Option (Int32 × xH) := (xcv h o0 11).bind fun _ => (fn148 o0 x1 h).bind fun r_1 => (if r_1.1 = 0 then j149_22 o0 x1 x2 r_1.2 else (xgR r_1.2 o0 11 3).bind fun a_3 => (xaI r_1.2 14 a_3 x1).bind fun v_4 => (if v_4 = x2 then j149_23 o0 x1 x2 1 r_1.2 else j149_22 o0 x1 x2 r_1.2))
theorem fn149_call {xs : List Int32} {d : Nat} (hd : 4 ≤ d) {o0 : Option Nat} {x1 : Int32} {x2 : Int32} {h : xH} {r : (Int32 × xH)} (hf : fn149 o0 x1 x2 h = some r) : xCall (xTa xs) d 149 [xrv o0, .int x1, .int x2] h (some (.int r.1), r.2) := by
  obtain ⟨d, rfl⟩ : ∃ d2, d = d2 + 1 := ⟨d - 1, by omega⟩
  replace hd : 3 ≤ d := by omega
  refine call_of2 (fl := [xrv o0, .int x1, .int x2]) (Ls := [xrv o0, .int x1, .int x2]) m149 (by simp [xfl, xrv_cat, xc_i, xc_j, xc_a, xc_f]) (Nat.le_of_ble_eq_true rfl) rfl ?_
  unfold fn149 at hf
  refine sh_aload (i' := 0) (n := 1) i149_0 (Or.inr ⟨rfl, by decide⟩) rfl ?_
  refine ev_do i149_1 rfl ?_
  obtain ⟨_, eu_6, hf⟩ := x_bind hf
  obtain ⟨r_1, er_1, hf⟩ := x_bind hf
  refine sh_inv (as := [.int x1]) (z := (some (.int r_1.1), r_1.2)) i149_2 v149_161 (Or.inl ⟨by decide, rfl⟩) m148 rfl (Nat.le_of_ble_eq_true rfl) eu_6 (fn148_call (by omega) er_1) ?_
  refine ev_if (t := 22) i149_5 rfl (fun c_2 => ?_) (fun c_2 => ?_)
  · replace hf := x_pos (show r_1.1 = 0 from c_2) hf
    exact j149_22_ok hd hf
  · replace hf := x_neg (show ¬ r_1.1 = 0 from c_2) hf
    refine sh_aload (i' := 0) (n := 1) i149_8 (Or.inr ⟨rfl, by decide⟩) rfl ?_
    obtain ⟨a_3, ea_3, hf⟩ := x_bind hf
    refine sh_getR i149_9 f149_13 ea_3 ?_
    refine ev_do i149_12 rfl ?_
    obtain ⟨v_4, ev_4, hf⟩ := x_bind hf
    refine sh_aldI (tg := 14) i149_13 (Or.inr (Or.inr ⟨rfl, rfl⟩)) ev_4 ?_
    refine ev_do i149_14 rfl ?_
    refine ev_icmp (t := 22) i149_15 rfl (fun c_5 => ?_) (fun c_5 => ?_)
    · replace hf := x_neg (show ¬ v_4 = x2 from c_5) hf
      exact j149_22_ok hd hf
    · replace hf := x_pos (show v_4 = x2 from Decidable.byContradiction (fun h9 => c_5 h9)) hf
      refine ev_do i149_18 rfl ?_
      refine sh_goto (t := 23) i149_19 rfl ?_
      exact j149_23_ok hd hf
end
