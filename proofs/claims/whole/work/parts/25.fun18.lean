section
def j193_95  (o0 : Option Nat) (x1 : Int32) (x2 : Int32) (x3 : Int32) (x4 : Int32) (s0 : Int32) (h : xH) : Option (Int32 × xH) := some (s0, h)
theorem j193_95_ok {xs : List Int32} {d : Nat} (hd : 3 ≤ d) {o0 : Option Nat} {x1 : Int32} {x2 : Int32} {x3 : Int32} {x4 : Int32} {s0 : Int32} {h : xH} {r : (Int32 × xH)} (hf : j193_95 o0 x1 x2 x3 x4 s0 h = some r) : xEv (xTa xs) d 193 (95, [xrv o0, .int x1, .int x2, .int x3, .int x4], [.int s0], h) (some (.int r.1), r.2) := by
  unfold j193_95 at hf
  obtain rfl := Option.some.inj hf
  exact sh_iret i193_95 m193 rfl rfl
def j193_33  (o0 : Option Nat) (x1 : Int32) (x2 : Int32) (x3 : Int32) (h : xH) : Option (Int32 × xH) := some ((-9), h)
theorem j193_33_ok {xs : List Int32} {d : Nat} (hd : 3 ≤ d) {u4 : Value} {o0 : Option Nat} {x1 : Int32} {x2 : Int32} {x3 : Int32} {h : xH} {r : (Int32 × xH)} (hu4 : u4.category = 1) (hf : j193_33 o0 x1 x2 x3 h = some r) : xEv (xTa xs) d 193 (33, [xrv o0, .int x1, .int x2, .int x3, u4], [], h) (some (.int r.1), r.2) := by
  unfold j193_33 at hf
  refine ev_do i193_33 rfl ?_
  obtain rfl := Option.some.inj hf
  exact sh_iret i193_35 m193 rfl rfl
def fn193 (o0 : Option Nat) (x1 : Int32) (x2 : Int32) (x3 : Int32) (h : xH) : Option (Int32 × xH) := (xcv h o0 11).bind fun _ => (fn148 o0 x1 h).bind fun r_1 => (if r_1.1 = 0 then j193_33 o0 x1 x2 x3 r_1.2 else (xgR r_1.2 o0 11 14).bind fun a_3 => (xaI r_1.2 13 a_3 x1).bind fun v_4 => (fn141 x2 0 (v_4 - 1) r_1.2).bind fun r_5 => (if r_5.1 = 0 then j193_33 o0 x1 x2 x3 r_5.2 else (fn141 x3 0 3 r_5.2).bind fun r_7 => (if r_7.1 = 0 then j193_33 o0 x1 x2 x3 r_7.2 else (if x3 = 0 then (xgR r_7.2 o0 11 16).bind fun a_10 => (xaI r_7.2 13 a_10 ((24 * x1) + x2)).bind fun v_11 => j193_95 o0 x1 x2 x3 ((24 * x1) + x2) v_11 r_7.2 else (if x3 = 1 then (xgR r_7.2 o0 11 17).bind fun a_13 => (xaI r_7.2 13 a_13 ((24 * x1) + x2)).bind fun v_14 => j193_95 o0 x1 x2 x3 ((24 * x1) + x2) v_14 r_7.2 else (if x3 = 2 then (xgR r_7.2 o0 11 19).bind fun a_16 => (xaI r_7.2 13 a_16 ((24 * x1) + x2)).bind fun v_17 => j193_95 o0 x1 x2 x3 ((24 * x1) + x2) v_17 r_7.2 else (xgR r_7.2 o0 11 20).bind fun a_18 => (xaI r_7.2 13 a_18 ((24 * x1) + x2)).bind fun v_19 => j193_95 o0 x1 x2 x3 ((24 * x1) + x2) v_19 r_7.2))))))
theorem fn193_call {xs : List Int32} {d : Nat} (hd : 4 ≤ d) {o0 : Option Nat} {x1 : Int32} {x2 : Int32} {x3 : Int32} {h : xH} {r : (Int32 × xH)} (hf : fn193 o0 x1 x2 x3 h = some r) : xCall (xTa xs) d 193 [xrv o0, .int x1, .int x2, .int x3] h (some (.int r.1), r.2) := by
  obtain ⟨d, rfl⟩ : ∃ d2, d = d2 + 1 := ⟨d - 1, by omega⟩
  replace hd : 3 ≤ d := by omega
  refine call_of2 (fl := [xrv o0, .int x1, .int x2, .int x3]) (Ls := [xrv o0, .int x1, .int x2, .int x3, .float 0]) m193 (by simp [xfl, xrv_cat, xc_i, xc_j, xc_a, xc_f]) (Nat.le_of_ble_eq_true rfl) rfl ?_
  unfold fn193 at hf
  refine sh_aload (i' := 0) (n := 1) i193_0 (Or.inr ⟨rfl, by decide⟩) rfl ?_
  refine ev_do i193_1 rfl ?_
  obtain ⟨_, eu_20, hf⟩ := x_bind hf
  obtain ⟨r_1, er_1, hf⟩ := x_bind hf
  refine sh_inv (as := [.int x1]) (z := (some (.int r_1.1), r_1.2)) i193_2 v193_161 (Or.inl ⟨by decide, rfl⟩) m148 rfl (Nat.le_of_ble_eq_true rfl) eu_20 (fn148_call (by omega) er_1) ?_
  refine ev_if (t := 33) i193_5 rfl (fun c_2 => ?_) (fun c_2 => ?_)
  · replace hf := x_pos (show r_1.1 = 0 from c_2) hf
    exact j193_33_ok hd rfl hf
  · replace hf := x_neg (show ¬ r_1.1 = 0 from c_2) hf
    refine ev_do i193_8 rfl ?_
    refine ev_do i193_9 rfl ?_
    refine sh_aload (i' := 0) (n := 1) i193_10 (Or.inr ⟨rfl, by decide⟩) rfl ?_
    obtain ⟨a_3, ea_3, hf⟩ := x_bind hf
    refine sh_getR i193_11 f193_47 ea_3 ?_
    refine ev_do i193_14 rfl ?_
    obtain ⟨v_4, ev_4, hf⟩ := x_bind hf
    refine sh_aldI (tg := 13) i193_15 (Or.inl ⟨rfl, rfl⟩) ev_4 ?_
    refine ev_do i193_16 rfl ?_
    refine ev_do i193_17 rfl ?_
    obtain ⟨r_5, er_5, hf⟩ := x_bind hf
    refine ev_sta (as := [.int (v_4 - 1), .int 0, .int x2]) (z := (some (.int r_5.1), r_5.2)) i193_18 v193_154 (Or.inl rfl) m141 rfl (Nat.le_of_ble_eq_true rfl) (fn141_call (by omega) er_5) ?_
    refine ev_if (t := 33) i193_21 rfl (fun c_6 => ?_) (fun c_6 => ?_)
    · replace hf := x_pos (show r_5.1 = 0 from c_6) hf
      exact j193_33_ok hd rfl hf
    · replace hf := x_neg (show ¬ r_5.1 = 0 from c_6) hf
      refine ev_do i193_24 rfl ?_
      refine ev_do i193_25 rfl ?_
      refine ev_do i193_26 rfl ?_
      obtain ⟨r_7, er_7, hf⟩ := x_bind hf
      refine ev_sta (as := [.int 3, .int 0, .int x3]) (z := (some (.int r_7.1), r_7.2)) i193_27 v193_154 (Or.inl rfl) m141 rfl (Nat.le_of_ble_eq_true rfl) (fn141_call (by omega) er_7) ?_
      refine ev_if (t := 36) i193_30 rfl (fun c_8 => ?_) (fun c_8 => ?_)
      · replace hf := x_neg (show ¬ r_7.1 = 0 from c_8) hf
        refine ev_do i193_36 rfl ?_
        refine ev_do i193_38 rfl ?_
        refine ev_do i193_39 rfl ?_
        refine ev_do i193_40 rfl ?_
        refine ev_do i193_41 rfl ?_
        refine sh_istore (i' := 4) (n := 2) i193_42 (Or.inl rfl) (xokst_of (Nat.le_of_ble_eq_true rfl) rfl) ?_
        refine ev_do i193_44 rfl ?_
        refine ev_if (t := 58) i193_45 rfl (fun c_9 => ?_) (fun c_9 => ?_)
        · replace hf := x_neg (show ¬ x3 = 0 from c_9) hf
          refine ev_do i193_58 rfl ?_
          refine ev_do i193_59 rfl ?_
          refine ev_icmp (t := 73) i193_60 rfl (fun c_12 => ?_) (fun c_12 => ?_)
          · replace hf := x_neg (show ¬ x3 = 1 from c_12) hf
            refine ev_do i193_73 rfl ?_
            refine ev_do i193_74 rfl ?_
            refine ev_icmp (t := 88) i193_75 rfl (fun c_15 => ?_) (fun c_15 => ?_)
            · replace hf := x_neg (show ¬ x3 = 2 from c_15) hf
              refine sh_aload (i' := 0) (n := 1) i193_88 (Or.inr ⟨rfl, by decide⟩) rfl ?_
              obtain ⟨a_18, ea_18, hf⟩ := x_bind hf
              refine sh_getR i193_89 f193_65 ea_18 ?_
              refine ev_do i193_92 rfl ?_
              obtain ⟨v_19, ev_19, hf⟩ := x_bind hf
              refine sh_aldI (tg := 13) i193_94 (Or.inl ⟨rfl, rfl⟩) ev_19 ?_
              exact j193_95_ok hd hf
            · replace hf := x_pos (show x3 = 2 from Decidable.byContradiction (fun h9 => c_15 h9)) hf
              refine sh_aload (i' := 0) (n := 1) i193_78 (Or.inr ⟨rfl, by decide⟩) rfl ?_
              obtain ⟨a_16, ea_16, hf⟩ := x_bind hf
              refine sh_getR i193_79 f193_62 ea_16 ?_
              refine ev_do i193_82 rfl ?_
              obtain ⟨v_17, ev_17, hf⟩ := x_bind hf
              refine sh_aldI (tg := 13) i193_84 (Or.inl ⟨rfl, rfl⟩) ev_17 ?_
              refine sh_goto (t := 95) i193_85 rfl ?_
              exact j193_95_ok hd hf
          · replace hf := x_pos (show x3 = 1 from Decidable.byContradiction (fun h9 => c_12 h9)) hf
            refine sh_aload (i' := 0) (n := 1) i193_63 (Or.inr ⟨rfl, by decide⟩) rfl ?_
            obtain ⟨a_13, ea_13, hf⟩ := x_bind hf
            refine sh_getR i193_64 f193_56 ea_13 ?_
            refine ev_do i193_67 rfl ?_
            obtain ⟨v_14, ev_14, hf⟩ := x_bind hf
            refine sh_aldI (tg := 13) i193_69 (Or.inl ⟨rfl, rfl⟩) ev_14 ?_
            refine sh_goto (t := 95) i193_70 rfl ?_
            exact j193_95_ok hd hf
        · replace hf := x_pos (show x3 = 0 from Decidable.byContradiction (fun h9 => c_9 h9)) hf
          refine sh_aload (i' := 0) (n := 1) i193_48 (Or.inr ⟨rfl, by decide⟩) rfl ?_
          obtain ⟨a_10, ea_10, hf⟩ := x_bind hf
          refine sh_getR i193_49 f193_53 ea_10 ?_
          refine ev_do i193_52 rfl ?_
          obtain ⟨v_11, ev_11, hf⟩ := x_bind hf
          refine sh_aldI (tg := 13) i193_54 (Or.inl ⟨rfl, rfl⟩) ev_11 ?_
          refine sh_goto (t := 95) i193_55 rfl ?_
          exact j193_95_ok hd hf
      · replace hf := x_pos (show r_7.1 = 0 from Decidable.byContradiction (fun h9 => c_8 h9)) hf
        exact j193_33_ok hd rfl hf
end
section
def j194_160  (o0 : Option Nat) (x1 : Int32) (x2 : Int32) (x3 : Int32) (x4 : Int32) (s0 : Int32) (h : xH) : Option (Int32 × xH) := some (s0, h)
theorem j194_160_ok {xs : List Int32} {d : Nat} (hd : 5 ≤ d) {o0 : Option Nat} {x1 : Int32} {x2 : Int32} {x3 : Int32} {x4 : Int32} {s0 : Int32} {h : xH} {r : (Int32 × xH)} (hf : j194_160 o0 x1 x2 x3 x4 s0 h = some r) : xEv (xTa xs) d 194 (160, [xrv o0, .int x1, .int x2, .int x3, .int x4], [.int s0], h) (some (.int r.1), r.2) := by
  unfold j194_160 at hf
  obtain rfl := Option.some.inj hf
  exact sh_iret i194_160 m194 rfl rfl
def j194_115  (o0 : Option Nat) (x1 : Int32) (x2 : Int32) (x3 : Int32) (x4 : Int32) (s0 : Int32) (h : xH) : Option (Int32 × xH) := some (s0, h)
theorem j194_115_ok {xs : List Int32} {d : Nat} (hd : 5 ≤ d) {o0 : Option Nat} {x1 : Int32} {x2 : Int32} {x3 : Int32} {x4 : Int32} {s0 : Int32} {h : xH} {r : (Int32 × xH)} (hf : j194_115 o0 x1 x2 x3 x4 s0 h = some r) : xEv (xTa xs) d 194 (115, [xrv o0, .int x1, .int x2, .int x3, .int x4], [.int s0], h) (some (.int r.1), r.2) := by
  unfold j194_115 at hf
  obtain rfl := Option.some.inj hf
  exact sh_iret i194_115 m194 rfl rfl
def j194_33  (o0 : Option Nat) (x1 : Int32) (x2 : Int32) (x3 : Int32) (h : xH) : Option (Int32 × xH) := some ((-9), h)
theorem j194_33_ok {xs : List Int32} {d : Nat} (hd : 5 ≤ d) {u4 : Value} {o0 : Option Nat} {x1 : Int32} {x2 : Int32} {x3 : Int32} {h : xH} {r : (Int32 × xH)} (hu4 : u4.category = 1) (hf : j194_33 o0 x1 x2 x3 h = some r) : xEv (xTa xs) d 194 (33, [xrv o0, .int x1, .int x2, .int x3, u4], [], h) (some (.int r.1), r.2) := by
  unfold j194_33 at hf
  refine ev_do i194_33 rfl ?_
  obtain rfl := Option.some.inj hf
  exact sh_iret i194_35 m194 rfl rfl
def fn194 (o0 : Option Nat) (x1 : Int32) (x2 : Int32) (x3 : Int32) (h : xH) : Option (Int32 × xH) := (xcv h o0 11).bind fun _ => (fn148 o0 x1 h).bind fun r_1 => (if r_1.1 = 0 then j194_33 o0 x1 x2 x3 r_1.2 else (xgR r_1.2 o0 11 15).bind fun a_3 => (xaI r_1.2 13 a_3 x1).bind fun v_4 => (fn141 x2 0 (v_4 - 1) r_1.2).bind fun r_5 => (if r_5.1 = 0 then j194_33 o0 x1 x2 x3 r_5.2 else (fn141 x3 0 4 r_5.2).bind fun r_7 => (if r_7.1 = 0 then j194_33 o0 x1 x2 x3 r_7.2 else (if x3 = 0 then (xgR r_7.2 o0 11 24).bind fun a_10 => (xaI r_7.2 13 a_10 ((120 * x1) + x2)).bind fun v_11 => some (v_11, r_7.2) else (if x3 = 1 then (xgR r_7.2 o0 11 25).bind fun a_13 => (xaI r_7.2 13 a_13 ((120 * x1) + x2)).bind fun v_14 => some (v_14, r_7.2) else (if x3 = 2 then (xgR r_7.2 o0 11 27).bind fun a_16 => (xaI r_7.2 13 a_16 ((120 * x1) + x2)).bind fun v_17 => some (v_17, r_7.2) else (if x3 = 3 then (xgR r_7.2 o0 11 28).bind fun a_19 => (xaI r_7.2 14 a_19 ((120 * x1) + x2)).bind fun v_20 => (if v_20 = 0 then j194_115 o0 x1 x2 x3 ((120 * x1) + x2) 0 r_7.2 else j194_115 o0 x1 x2 x3 ((120 * x1) + x2) 1 r_7.2) else (xgR r_7.2 o0 11 24).bind fun a_22 => (xaI r_7.2 13 a_22 ((120 * x1) + x2)).bind fun v_23 => (if v_23 = 2 then (xgR r_7.2 o0 11 12).bind fun a_25 => (xgR r_7.2 o0 11 29).bind fun a_26 => (xaI r_7.2 13 a_26 ((120 * x1) + x2)).bind fun v_27 => (xgR r_7.2 o0 11 30).bind fun a_28 => (xaI r_7.2 13 a_28 ((120 * x1) + x2)).bind fun v_29 => (xcv r_7.2 o0 11).bind fun _ => (fn164 o0 x1 a_25 ((600 * x1) + v_27) v_29 r_7.2).bind fun r_30 => j194_160 o0 x1 x2 x3 ((120 * x1) + x2) r_30.1 r_30.2 else j194_160 o0 x1 x2 x3 ((120 * x1) + x2) (-1) r_7.2))))))))
theorem fn194_call {xs : List Int32} {d : Nat} (hd : 6 ≤ d) {o0 : Option Nat} {x1 : Int32} {x2 : Int32} {x3 : Int32} {h : xH} {r : (Int32 × xH)} (hf : fn194 o0 x1 x2 x3 h = some r) : xCall (xTa xs) d 194 [xrv o0, .int x1, .int x2, .int x3] h (some (.int r.1), r.2) := by
  obtain ⟨d, rfl⟩ : ∃ d2, d = d2 + 1 := ⟨d - 1, by omega⟩
  replace hd : 5 ≤ d := by omega
  refine call_of2 (fl := [xrv o0, .int x1, .int x2, .int x3]) (Ls := [xrv o0, .int x1, .int x2, .int x3, .float 0]) m194 (by simp [xfl, xrv_cat, xc_i, xc_j, xc_a, xc_f]) (Nat.le_of_ble_eq_true rfl) rfl ?_
  unfold fn194 at hf
  refine sh_aload (i' := 0) (n := 1) i194_0 (Or.inr ⟨rfl, by decide⟩) rfl ?_
  refine ev_do i194_1 rfl ?_
  obtain ⟨_, eu_32, hf⟩ := x_bind hf
  obtain ⟨r_1, er_1, hf⟩ := x_bind hf
  refine sh_inv (as := [.int x1]) (z := (some (.int r_1.1), r_1.2)) i194_2 v194_161 (Or.inl ⟨by decide, rfl⟩) m148 rfl (Nat.le_of_ble_eq_true rfl) eu_32 (fn148_call (by omega) er_1) ?_
  refine ev_if (t := 33) i194_5 rfl (fun c_2 => ?_) (fun c_2 => ?_)
  · replace hf := x_pos (show r_1.1 = 0 from c_2) hf
    exact j194_33_ok hd rfl hf
  · replace hf := x_neg (show ¬ r_1.1 = 0 from c_2) hf
    refine ev_do i194_8 rfl ?_
    refine ev_do i194_9 rfl ?_
    refine sh_aload (i' := 0) (n := 1) i194_10 (Or.inr ⟨rfl, by decide⟩) rfl ?_
    obtain ⟨a_3, ea_3, hf⟩ := x_bind hf
    refine sh_getR i194_11 f194_50 ea_3 ?_
    refine ev_do i194_14 rfl ?_
    obtain ⟨v_4, ev_4, hf⟩ := x_bind hf
    refine sh_aldI (tg := 13) i194_15 (Or.inl ⟨rfl, rfl⟩) ev_4 ?_
    refine ev_do i194_16 rfl ?_
    refine ev_do i194_17 rfl ?_
    obtain ⟨r_5, er_5, hf⟩ := x_bind hf
    refine ev_sta (as := [.int (v_4 - 1), .int 0, .int x2]) (z := (some (.int r_5.1), r_5.2)) i194_18 v194_154 (Or.inl rfl) m141 rfl (Nat.le_of_ble_eq_true rfl) (fn141_call (by omega) er_5) ?_
    refine ev_if (t := 33) i194_21 rfl (fun c_6 => ?_) (fun c_6 => ?_)
    · replace hf := x_pos (show r_5.1 = 0 from c_6) hf
      exact j194_33_ok hd rfl hf
    · replace hf := x_neg (show ¬ r_5.1 = 0 from c_6) hf
      refine ev_do i194_24 rfl ?_
      refine ev_do i194_25 rfl ?_
      refine ev_do i194_26 rfl ?_
      obtain ⟨r_7, er_7, hf⟩ := x_bind hf
      refine ev_sta (as := [.int 4, .int 0, .int x3]) (z := (some (.int r_7.1), r_7.2)) i194_27 v194_154 (Or.inl rfl) m141 rfl (Nat.le_of_ble_eq_true rfl) (fn141_call (by omega) er_7) ?_
      refine ev_if (t := 36) i194_30 rfl (fun c_8 => ?_) (fun c_8 => ?_)
      · replace hf := x_neg (show ¬ r_7.1 = 0 from c_8) hf
        refine ev_do i194_36 rfl ?_
        refine ev_do i194_38 rfl ?_
        refine ev_do i194_39 rfl ?_
        refine ev_do i194_40 rfl ?_
        refine ev_do i194_41 rfl ?_
        refine sh_istore (i' := 4) (n := 2) i194_42 (Or.inl rfl) (xokst_of (Nat.le_of_ble_eq_true rfl) rfl) ?_
        refine ev_do i194_44 rfl ?_
        by_cases c_9 : x3 = 0
        · replace hf := x_pos c_9 hf
          refine sh_tswC (c := 0) (t := 76) i194_45 (show (x3).toInt = 0 by rw [c_9]; rfl) (by decide) (by decide) rfl rfl ?_
          refine sh_aload (i' := 0) (n := 1) i194_76 (Or.inr ⟨rfl, by decide⟩) rfl ?_
          obtain ⟨a_10, ea_10, hf⟩ := x_bind hf
          refine sh_getR i194_77 f194_77 ea_10 ?_
          refine ev_do i194_80 rfl ?_
          obtain ⟨v_11, ev_11, hf⟩ := x_bind hf
          refine sh_aldI (tg := 13) i194_82 (Or.inl ⟨rfl, rfl⟩) ev_11 ?_
          obtain rfl := Option.some.inj hf
          exact sh_iret i194_83 m194 rfl rfl
        · replace hf := x_neg c_9 hf
          by_cases c_12 : x3 = 1
          · replace hf := x_pos c_12 hf
            refine sh_tswC (c := 1) (t := 84) i194_45 (show (x3).toInt = 1 by rw [c_12]; rfl) (by decide) (by decide) rfl rfl ?_
            refine sh_aload (i' := 0) (n := 1) i194_84 (Or.inr ⟨rfl, by decide⟩) rfl ?_
            obtain ⟨a_13, ea_13, hf⟩ := x_bind hf
            refine sh_getR i194_85 f194_80 ea_13 ?_
            refine ev_do i194_88 rfl ?_
            obtain ⟨v_14, ev_14, hf⟩ := x_bind hf
            refine sh_aldI (tg := 13) i194_90 (Or.inl ⟨rfl, rfl⟩) ev_14 ?_
            obtain rfl := Option.some.inj hf
            exact sh_iret i194_91 m194 rfl rfl
          · replace hf := x_neg c_12 hf
            by_cases c_15 : x3 = 2
            · replace hf := x_pos c_15 hf
              refine sh_tswC (c := 2) (t := 92) i194_45 (show (x3).toInt = 2 by rw [c_15]; rfl) (by decide) (by decide) rfl rfl ?_
              refine sh_aload (i' := 0) (n := 1) i194_92 (Or.inr ⟨rfl, by decide⟩) rfl ?_
              obtain ⟨a_16, ea_16, hf⟩ := x_bind hf
              refine sh_getR i194_93 f194_86 ea_16 ?_
              refine ev_do i194_96 rfl ?_
              obtain ⟨v_17, ev_17, hf⟩ := x_bind hf
              refine sh_aldI (tg := 13) i194_98 (Or.inl ⟨rfl, rfl⟩) ev_17 ?_
              obtain rfl := Option.some.inj hf
              exact sh_iret i194_99 m194 rfl rfl
            · replace hf := x_neg c_15 hf
              by_cases c_18 : x3 = 3
              · replace hf := x_pos c_18 hf
                refine sh_tswC (c := 3) (t := 100) i194_45 (show (x3).toInt = 3 by rw [c_18]; rfl) (by decide) (by decide) rfl rfl ?_
                refine sh_aload (i' := 0) (n := 1) i194_100 (Or.inr ⟨rfl, by decide⟩) rfl ?_
                obtain ⟨a_19, ea_19, hf⟩ := x_bind hf
                refine sh_getR i194_101 f194_89 ea_19 ?_
                refine ev_do i194_104 rfl ?_
                obtain ⟨v_20, ev_20, hf⟩ := x_bind hf
                refine sh_aldI (tg := 14) i194_106 (Or.inr (Or.inr ⟨rfl, rfl⟩)) ev_20 ?_
                refine ev_if (t := 114) i194_107 rfl (fun c_21 => ?_) (fun c_21 => ?_)
                · replace hf := x_pos (show v_20 = 0 from c_21) hf
                  refine ev_do i194_114 rfl ?_
                  exact j194_115_ok hd hf
                · replace hf := x_neg (show ¬ v_20 = 0 from c_21) hf
                  refine ev_do i194_110 rfl ?_
                  refine sh_goto (t := 115) i194_111 rfl ?_
                  exact j194_115_ok hd hf
              · replace hf := x_neg c_18 hf
                have nc_9 : (x3).toInt ≠ 0 := fun h9 => c_9 (Int32.toInt_inj.mp h9)
                have nc_12 : (x3).toInt ≠ 1 := fun h9 => c_12 (Int32.toInt_inj.mp h9)
                have nc_15 : (x3).toInt ≠ 2 := fun h9 => c_15 (Int32.toInt_inj.mp h9)
                have nc_18 : (x3).toInt ≠ 3 := fun h9 => c_18 (Int32.toInt_inj.mp h9)
                refine sh_tswD (t := 116) i194_45 (show (x3).toInt < 0 ∨ 3 < (x3).toInt by omega) rfl ?_
                refine sh_aload (i' := 0) (n := 1) i194_116 (Or.inr ⟨rfl, by decide⟩) rfl ?_
                obtain ⟨a_22, ea_22, hf⟩ := x_bind hf
                refine sh_getR i194_117 f194_77 ea_22 ?_
                refine ev_do i194_120 rfl ?_
                obtain ⟨v_23, ev_23, hf⟩ := x_bind hf
                refine sh_aldI (tg := 13) i194_122 (Or.inl ⟨rfl, rfl⟩) ev_23 ?_
                refine ev_do i194_123 rfl ?_
                refine ev_icmp (t := 159) i194_124 rfl (fun c_24 => ?_) (fun c_24 => ?_)
                · replace hf := x_neg (show ¬ v_23 = 2 from c_24) hf
                  refine ev_do i194_159 rfl ?_
                  exact j194_160_ok hd hf
                · replace hf := x_pos (show v_23 = 2 from Decidable.byContradiction (fun h9 => c_24 h9)) hf
                  refine sh_aload (i' := 0) (n := 1) i194_127 (Or.inr ⟨rfl, by decide⟩) rfl ?_
                  refine ev_do i194_128 rfl ?_
                  refine sh_aload (i' := 0) (n := 1) i194_129 (Or.inr ⟨rfl, by decide⟩) rfl ?_
                  obtain ⟨a_25, ea_25, hf⟩ := x_bind hf
                  refine sh_getR i194_130 f194_41 ea_25 ?_
                  refine ev_do i194_133 rfl ?_
                  refine ev_do i194_136 rfl ?_
                  refine ev_do i194_137 rfl ?_
                  refine sh_aload (i' := 0) (n := 1) i194_138 (Or.inr ⟨rfl, by decide⟩) rfl ?_
                  obtain ⟨a_26, ea_26, hf⟩ := x_bind hf
                  refine sh_getR i194_139 f194_92 ea_26 ?_
                  refine ev_do i194_142 rfl ?_
                  obtain ⟨v_27, ev_27, hf⟩ := x_bind hf
                  refine sh_aldI (tg := 13) i194_144 (Or.inl ⟨rfl, rfl⟩) ev_27 ?_
                  refine ev_do i194_145 rfl ?_
                  refine sh_aload (i' := 0) (n := 1) i194_146 (Or.inr ⟨rfl, by decide⟩) rfl ?_
                  obtain ⟨a_28, ea_28, hf⟩ := x_bind hf
                  refine sh_getR i194_147 f194_95 ea_28 ?_
                  refine ev_do i194_150 rfl ?_
                  obtain ⟨v_29, ev_29, hf⟩ := x_bind hf
                  refine sh_aldI (tg := 13) i194_152 (Or.inl ⟨rfl, rfl⟩) ev_29 ?_
                  obtain ⟨_, eu_31, hf⟩ := x_bind hf
                  obtain ⟨r_30, er_30, hf⟩ := x_bind hf
                  refine sh_inv (as := [.int v_29, .int ((600 * x1) + v_27), xrv a_25, .int x1]) (z := (some (.int r_30.1), r_30.2)) i194_153 v194_215 (Or.inl ⟨by decide, rfl⟩) m164 rfl (Nat.le_of_ble_eq_true rfl) eu_31 (fn164_call (by omega) er_30) ?_
                  refine sh_goto (t := 160) i194_156 rfl ?_
                  exact j194_160_ok hd hf
      · replace hf := x_pos (show r_7.1 = 0 from Decidable.byContradiction (fun h9 => c_8 h9)) hf
        exact j194_33_ok hd rfl hf
end
section
def j195_20  (o0 : Option Nat) (x1 : Int32) (h : xH) : Option xH := (xgI h o0 11 45).bind fun v_1 => (xpF h o0 11 45 .int (.int (v_1 + 1))).bind fun h_2 => some h_2
theorem j195_20_ok {xs : List Int32} {d : Nat} (hd : 1 ≤ d) {o0 : Option Nat} {x1 : Int32} {h : xH} {r : xH} (hf : j195_20 o0 x1 h = some r) : xEv (xTa xs) d 195 (20, [xrv o0, .int x1], [], h) (none, r) := by
  unfold j195_20 at hf
  refine sh_aload (i' := 0) (n := 1) i195_20 (Or.inr ⟨rfl, by decide⟩) rfl ?_
  refine sh_dup i195_21 (xrv_cat (o0)) ?_
  obtain ⟨v_1, ev_1, hf⟩ := x_bind hf
  refine sh_getI i195_22 f195_356 ev_1 ?_
  refine ev_do i195_25 rfl ?_
  refine ev_do i195_26 rfl ?_
  obtain ⟨h_2, eh_2, hf⟩ := x_bind hf
  refine sh_put i195_27 f195_356 (by decide) rfl eh_2 ?_
  obtain rfl := Option.some.inj hf
  exact sh_vret i195_30 m195 rfl
def fn195 (o0 : Option Nat) (x1 : Int32) (h : xH) : Option xH := (xgI h o0 11 45).bind fun v_1 => (if 4000 ≤ v_1 then j195_20 o0 x1 h else (xgR h o0 11 44).bind fun a_3 => (xgI h o0 11 45).bind fun v_4 => (xaS h 13 (fun x => x) a_3 v_4 x1).bind fun h_5 => j195_20 o0 x1 h_5)
theorem fn195_call {xs : List Int32} {d : Nat} (hd : 2 ≤ d) {o0 : Option Nat} {x1 : Int32} {h : xH} {r : xH} (hf : fn195 o0 x1 h = some r) : xCall (xTa xs) d 195 [xrv o0, .int x1] h (none, r) := by
  obtain ⟨d, rfl⟩ : ∃ d2, d = d2 + 1 := ⟨d - 1, by omega⟩
  replace hd : 1 ≤ d := by omega
  refine call_of2 (fl := [xrv o0, .int x1]) (Ls := [xrv o0, .int x1]) m195 (by simp [xfl, xrv_cat, xc_i, xc_j, xc_a, xc_f]) (Nat.le_of_ble_eq_true rfl) rfl ?_
  unfold fn195 at hf
  refine sh_aload (i' := 0) (n := 1) i195_0 (Or.inr ⟨rfl, by decide⟩) rfl ?_
  obtain ⟨v_1, ev_1, hf⟩ := x_bind hf
  refine sh_getI i195_1 f195_356 ev_1 ?_
  refine ev_do i195_4 rfl ?_
  refine ev_icmp (t := 20) i195_7 rfl (fun c_2 => ?_) (fun c_2 => ?_)
  · replace hf := x_pos (show 4000 ≤ v_1 from c_2) hf
    exact j195_20_ok hd hf
  · replace hf := x_neg (show ¬ 4000 ≤ v_1 from c_2) hf
    refine sh_aload (i' := 0) (n := 1) i195_10 (Or.inr ⟨rfl, by decide⟩) rfl ?_
    obtain ⟨a_3, ea_3, hf⟩ := x_bind hf
    refine sh_getR i195_11 f195_98 ea_3 ?_
    refine sh_aload (i' := 0) (n := 1) i195_14 (Or.inr ⟨rfl, by decide⟩) rfl ?_
    obtain ⟨v_4, ev_4, hf⟩ := x_bind hf
    refine sh_getI i195_15 f195_356 ev_4 ?_
    refine ev_do i195_18 rfl ?_
    obtain ⟨h_5, eh_5, hf⟩ := x_bind hf
    refine sh_ast (tg := 13) i195_19 (Or.inl ⟨rfl, rfl, rfl⟩) eh_5 ?_
    exact j195_20_ok hd hf
end
section
def l196_18  : Nat → Option Nat → Int32 → Int32 → xH → Option xH
  | 0 => fun _ _ _ _ => none
  | n + 1 => fun o0 x1 x2 h => (if x2 ≤ 0 then some h else if x2 = 0 then none else (xcv h o0 11).bind fun _ => (fn195 o0 (48 + (xrem (x1 / x2) 10)) h).bind fun h_3 => l196_18 n o0 x1 (x2 / 10) h_3)
theorem l196_18_ok {xs : List Int32} {d : Nat} (hd : 2 ≤ d) : ∀ (n : Nat) {o0 : Option Nat} {x1 : Int32} {x2 : Int32} {h : xH} {r : xH}, l196_18 n o0 x1 x2 h = some r → xEv (xTa xs) d 196 (18, [xrv o0, .int x1, .int x2], [], h) (none, r) := by
  intro n
  induction n with
  | zero => intros; rename_i hf; cases hf
  | succ n ih =>
    intro o0 x1 x2 h r hf
    replace hf : ((if x2 ≤ 0 then some h else if x2 = 0 then none else (xcv h o0 11).bind fun _ => (fn195 o0 (48 + (xrem (x1 / x2) 10)) h).bind fun h_3 => l196_18 n o0 x1 (x2 / 10) h_3)) = some r := hf
    refine ev_do i196_18 rfl ?_
    refine ev_if (t := 43) i196_19 rfl (fun c_1 => ?_) (fun c_1 => ?_)
    · replace hf := x_pos (show x2 ≤ 0 from c_1) hf
      obtain rfl := Option.some.inj hf
      exact sh_vret i196_43 m196 rfl
    · replace hf := x_neg (show ¬ x2 ≤ 0 from c_1) hf
      refine sh_aload (i' := 0) (n := 1) i196_22 (Or.inr ⟨rfl, by decide⟩) rfl ?_
      refine ev_do i196_23 rfl ?_
      refine ev_do i196_25 rfl ?_
      refine ev_do i196_26 rfl ?_
      by_cases c_2 : x2 = 0
      · replace hf := x_pos c_2 hf
        cases hf
      · replace hf := x_neg c_2 hf
        refine sh_div i196_27 c_2 ?_
        refine ev_do i196_28 rfl ?_
        refine sh_rem i196_30 (by decide) ?_
        refine ev_do i196_31 rfl ?_
        obtain ⟨_, eu_4, hf⟩ := x_bind hf
        obtain ⟨h_3, eh_3, hf⟩ := x_bind hf
        refine sh_inv (as := [.int (48 + (xrem (x1 / x2) 10))]) (z := (none, h_3)) i196_32 v196_359 (Or.inl ⟨by decide, rfl⟩) m195 rfl (Nat.le_of_ble_eq_true rfl) eu_4 (fn195_call (by omega) eh_3) ?_
        refine ev_do i196_35 rfl ?_
        refine ev_do i196_36 rfl ?_
        refine sh_div i196_38 (by decide) ?_
        refine sh_istore (i' := 2) (n := 1) i196_39 (Or.inr ⟨rfl, by decide⟩) (xokst_of (Nat.le_of_ble_eq_true rfl) rfl) ?_
        refine sh_goto (t := 18) i196_40 rfl ?_
        exact ih hf
def l196_2  : Nat → Option Nat → Int32 → Int32 → xH → Option xH
  | 0 => fun _ _ _ _ => none
  | n + 1 => fun o0 x1 x2 h => if x2 = 0 then none else (if (x1 / x2) ≤ 9 then l196_18 xFuel o0 x1 x2 h else l196_2 n o0 x1 (x2 * 10) h)
theorem l196_2_ok {xs : List Int32} {d : Nat} (hd : 2 ≤ d) : ∀ (n : Nat) {o0 : Option Nat} {x1 : Int32} {x2 : Int32} {h : xH} {r : xH}, l196_2 n o0 x1 x2 h = some r → xEv (xTa xs) d 196 (2, [xrv o0, .int x1, .int x2], [], h) (none, r) := by
  intro n
  induction n with
  | zero => intros; rename_i hf; cases hf
  | succ n ih =>
    intro o0 x1 x2 h r hf
    replace hf : (if x2 = 0 then none else (if (x1 / x2) ≤ 9 then l196_18 xFuel o0 x1 x2 h else l196_2 n o0 x1 (x2 * 10) h)) = some r := hf
    refine ev_do i196_2 rfl ?_
    refine ev_do i196_3 rfl ?_
    by_cases c_1 : x2 = 0
    · replace hf := x_pos c_1 hf
      cases hf
    · replace hf := x_neg c_1 hf
      refine sh_div i196_4 c_1 ?_
      refine ev_do i196_5 rfl ?_
      refine ev_icmp (t := 18) i196_7 rfl (fun c_2 => ?_) (fun c_2 => ?_)
      · replace hf := x_pos (show (x1 / x2) ≤ 9 from c_2) hf
        exact l196_18_ok hd xFuel hf
      · replace hf := x_neg (show ¬ (x1 / x2) ≤ 9 from c_2) hf
        refine ev_do i196_10 rfl ?_
        refine ev_do i196_11 rfl ?_
        refine ev_do i196_13 rfl ?_
        refine sh_istore (i' := 2) (n := 1) i196_14 (Or.inr ⟨rfl, by decide⟩) (xokst_of (Nat.le_of_ble_eq_true rfl) rfl) ?_
        refine sh_goto (t := 2) i196_15 rfl ?_
        exact ih hf
def fn196 (o0 : Option Nat) (x1 : Int32) (h : xH) : Option xH := l196_2 xFuel o0 x1 1 h
theorem fn196_call {xs : List Int32} {d : Nat} (hd : 3 ≤ d) {o0 : Option Nat} {x1 : Int32} {h : xH} {r : xH} (hf : fn196 o0 x1 h = some r) : xCall (xTa xs) d 196 [xrv o0, .int x1] h (none, r) := by
  obtain ⟨d, rfl⟩ : ∃ d2, d = d2 + 1 := ⟨d - 1, by omega⟩
  replace hd : 2 ≤ d := by omega
  refine call_of2 (fl := [xrv o0, .int x1]) (Ls := [xrv o0, .int x1, .float 0]) m196 (by simp [xfl, xrv_cat, xc_i, xc_j, xc_a, xc_f]) (Nat.le_of_ble_eq_true rfl) rfl ?_
  unfold fn196 at hf
  refine ev_do i196_0 rfl ?_
  refine sh_istore (i' := 2) (n := 1) i196_1 (Or.inr ⟨rfl, by decide⟩) (xokst_of (Nat.le_of_ble_eq_true rfl) rfl) ?_
  exact l196_2_ok hd xFuel hf
end
section
def j197_23  (o0 : Option Nat) (h : xH) : Option xH := (xgI h o0 11 47).bind fun v_1 => (xpF h o0 11 47 .int (.int (v_1 + 1))).bind fun h_2 => some h_2
theorem j197_23_ok {xs : List Int32} {d : Nat} (hd : 1 ≤ d) {o0 : Option Nat} {h : xH} {r : xH} (hf : j197_23 o0 h = some r) : xEv (xTa xs) d 197 (23, [xrv o0], [], h) (none, r) := by
  unfold j197_23 at hf
  refine sh_aload (i' := 0) (n := 1) i197_23 (Or.inr ⟨rfl, by decide⟩) rfl ?_
  refine sh_dup i197_24 (xrv_cat (o0)) ?_
  obtain ⟨v_1, ev_1, hf⟩ := x_bind hf
  refine sh_getI i197_25 f197_362 ev_1 ?_
  refine ev_do i197_28 rfl ?_
  refine ev_do i197_29 rfl ?_
  obtain ⟨h_2, eh_2, hf⟩ := x_bind hf
  refine sh_put i197_30 f197_362 (by decide) rfl eh_2 ?_
  obtain rfl := Option.some.inj hf
  exact sh_vret i197_33 m197 rfl
def fn197 (o0 : Option Nat) (h : xH) : Option xH := (xgI h o0 11 47).bind fun v_1 => (if 4001 ≤ v_1 then j197_23 o0 h else (xgR h o0 11 46).bind fun a_3 => (xgI h o0 11 47).bind fun v_4 => (xgI h o0 11 45).bind fun v_5 => (xaS h 13 (fun x => x) a_3 v_4 v_5).bind fun h_6 => j197_23 o0 h_6)
theorem fn197_call {xs : List Int32} {d : Nat} (hd : 2 ≤ d) {o0 : Option Nat} {h : xH} {r : xH} (hf : fn197 o0 h = some r) : xCall (xTa xs) d 197 [xrv o0] h (none, r) := by
  obtain ⟨d, rfl⟩ : ∃ d2, d = d2 + 1 := ⟨d - 1, by omega⟩
  replace hd : 1 ≤ d := by omega
  refine call_of2 (fl := [xrv o0]) (Ls := [xrv o0]) m197 (by simp [xfl, xrv_cat, xc_i, xc_j, xc_a, xc_f]) (Nat.le_of_ble_eq_true rfl) rfl ?_
  unfold fn197 at hf
  refine sh_aload (i' := 0) (n := 1) i197_0 (Or.inr ⟨rfl, by decide⟩) rfl ?_
  obtain ⟨v_1, ev_1, hf⟩ := x_bind hf
  refine sh_getI i197_1 f197_362 ev_1 ?_
  refine ev_do i197_4 rfl ?_
  refine ev_icmp (t := 23) i197_7 rfl (fun c_2 => ?_) (fun c_2 => ?_)
  · replace hf := x_pos (show 4001 ≤ v_1 from c_2) hf
    exact j197_23_ok hd hf
  · replace hf := x_neg (show ¬ 4001 ≤ v_1 from c_2) hf
    refine sh_aload (i' := 0) (n := 1) i197_10 (Or.inr ⟨rfl, by decide⟩) rfl ?_
    obtain ⟨a_3, ea_3, hf⟩ := x_bind hf
    refine sh_getR i197_11 f197_101 ea_3 ?_
    refine sh_aload (i' := 0) (n := 1) i197_14 (Or.inr ⟨rfl, by decide⟩) rfl ?_
    obtain ⟨v_4, ev_4, hf⟩ := x_bind hf
    refine sh_getI i197_15 f197_362 ev_4 ?_
    refine sh_aload (i' := 0) (n := 1) i197_18 (Or.inr ⟨rfl, by decide⟩) rfl ?_
    obtain ⟨v_5, ev_5, hf⟩ := x_bind hf
    refine sh_getI i197_19 f197_356 ev_5 ?_
    obtain ⟨h_6, eh_6, hf⟩ := x_bind hf
    refine sh_ast (tg := 13) i197_22 (Or.inl ⟨rfl, rfl, rfl⟩) eh_6 ?_
    exact j197_23_ok hd hf
end
section
def j198_56  (o0 : Option Nat) (x1 : Int32) (s0 : Option Nat) (s1 : Int32) (h : xH) : Option xH := (xpF h s0 11 49 .int (.int s1)).bind fun h_1 => (xcv h_1 o0 11).bind fun _ => (fn195 o0 10 h_1).bind fun h_2 => some h_2
theorem j198_56_ok {xs : List Int32} {d : Nat} (hd : 2 ≤ d) {o0 : Option Nat} {x1 : Int32} {s0 : Option Nat} {s1 : Int32} {h : xH} {r : xH} (hf : j198_56 o0 x1 s0 s1 h = some r) : xEv (xTa xs) d 198 (56, [xrv o0, .int x1], [.int s1, xrv s0], h) (none, r) := by
  unfold j198_56 at hf
  obtain ⟨h_1, eh_1, hf⟩ := x_bind hf
  refine sh_put i198_56 f198_365 (by decide) rfl eh_1 ?_
  refine sh_aload (i' := 0) (n := 1) i198_59 (Or.inr ⟨rfl, by decide⟩) rfl ?_
  refine ev_do i198_60 rfl ?_
  obtain ⟨_, eu_3, hf⟩ := x_bind hf
  obtain ⟨h_2, eh_2, hf⟩ := x_bind hf
  refine sh_inv (as := [.int 10]) (z := (none, h_2)) i198_62 v198_359 (Or.inl ⟨by decide, rfl⟩) m195 rfl (Nat.le_of_ble_eq_true rfl) eu_3 (fn195_call (by omega) eh_2) ?_
  obtain rfl := Option.some.inj hf
  exact sh_vret i198_65 m198 rfl
def j198_28  (o0 : Option Nat) (s0 : Int32) (h : xH) : Option xH := (xgI h o0 11 45).bind fun v_1 => (xgI h o0 11 49).bind fun v_2 => (if (v_1 - s0) ≤ v_2 then (xgI h o0 11 49).bind fun v_4 => j198_56 o0 s0 o0 v_4 h else (xgI h o0 11 45).bind fun v_5 => j198_56 o0 s0 o0 (v_5 - s0) h)
theorem j198_28_ok {xs : List Int32} {d : Nat} (hd : 2 ≤ d) {u1 : Value} {o0 : Option Nat} {s0 : Int32} {h : xH} {r : xH} (hu1 : u1.category = 1) (hf : j198_28 o0 s0 h = some r) : xEv (xTa xs) d 198 (28, [xrv o0, u1], [.int s0], h) (none, r) := by
  unfold j198_28 at hf
  refine sh_istore (i' := 1) (n := 1) i198_28 (Or.inr ⟨rfl, by decide⟩) (xokst_of (Nat.le_of_ble_eq_true rfl) (xrv_cat (o0))) ?_
  refine sh_aload (i' := 0) (n := 1) i198_29 (Or.inr ⟨rfl, by decide⟩) rfl ?_
  refine sh_aload (i' := 0) (n := 1) i198_30 (Or.inr ⟨rfl, by decide⟩) rfl ?_
  obtain ⟨v_1, ev_1, hf⟩ := x_bind hf
  refine sh_getI i198_31 f198_356 ev_1 ?_
  refine ev_do i198_34 rfl ?_
  refine ev_do i198_35 rfl ?_
  refine sh_aload (i' := 0) (n := 1) i198_36 (Or.inr ⟨rfl, by decide⟩) rfl ?_
  obtain ⟨v_2, ev_2, hf⟩ := x_bind hf
  refine sh_getI i198_37 f198_365 ev_2 ?_
  refine ev_icmp (t := 52) i198_40 rfl (fun c_3 => ?_) (fun c_3 => ?_)
  · replace hf := x_pos (show (v_1 - s0) ≤ v_2 from c_3) hf
    refine sh_aload (i' := 0) (n := 1) i198_52 (Or.inr ⟨rfl, by decide⟩) rfl ?_
    obtain ⟨v_4, ev_4, hf⟩ := x_bind hf
    refine sh_getI i198_53 f198_365 ev_4 ?_
    exact j198_56_ok hd hf
  · replace hf := x_neg (show ¬ (v_1 - s0) ≤ v_2 from c_3) hf
    refine sh_aload (i' := 0) (n := 1) i198_43 (Or.inr ⟨rfl, by decide⟩) rfl ?_
    obtain ⟨v_5, ev_5, hf⟩ := x_bind hf
    refine sh_getI i198_44 f198_356 ev_5 ?_
    refine ev_do i198_47 rfl ?_
    refine ev_do i198_48 rfl ?_
    refine sh_goto (t := 56) i198_49 rfl ?_
    exact j198_56_ok hd hf
def fn198 (o0 : Option Nat) (h : xH) : Option xH := (xgI h o0 11 47).bind fun v_1 => (if 4002 ≤ v_1 then (xgI h o0 11 45).bind fun v_3 => j198_28 o0 v_3 h else (xgR h o0 11 46).bind fun a_4 => (xgI h o0 11 47).bind fun v_5 => (xaI h 13 a_4 (v_5 - 1)).bind fun v_6 => j198_28 o0 v_6 h)
theorem fn198_call {xs : List Int32} {d : Nat} (hd : 3 ≤ d) {o0 : Option Nat} {h : xH} {r : xH} (hf : fn198 o0 h = some r) : xCall (xTa xs) d 198 [xrv o0] h (none, r) := by
  obtain ⟨d, rfl⟩ : ∃ d2, d = d2 + 1 := ⟨d - 1, by omega⟩
  replace hd : 2 ≤ d := by omega
  refine call_of2 (fl := [xrv o0]) (Ls := [xrv o0, .float 0]) m198 (by simp [xfl, xrv_cat, xc_i, xc_j, xc_a, xc_f]) (Nat.le_of_ble_eq_true rfl) rfl ?_
  unfold fn198 at hf
  refine sh_aload (i' := 0) (n := 1) i198_0 (Or.inr ⟨rfl, by decide⟩) rfl ?_
  obtain ⟨v_1, ev_1, hf⟩ := x_bind hf
  refine sh_getI i198_1 f198_362 ev_1 ?_
  refine ev_do i198_4 rfl ?_
  refine ev_icmp (t := 24) i198_7 rfl (fun c_2 => ?_) (fun c_2 => ?_)
  · replace hf := x_pos (show 4002 ≤ v_1 from c_2) hf
    refine sh_aload (i' := 0) (n := 1) i198_24 (Or.inr ⟨rfl, by decide⟩) rfl ?_
    obtain ⟨v_3, ev_3, hf⟩ := x_bind hf
    refine sh_getI i198_25 f198_356 ev_3 ?_
    exact j198_28_ok hd rfl hf
  · replace hf := x_neg (show ¬ 4002 ≤ v_1 from c_2) hf
    refine sh_aload (i' := 0) (n := 1) i198_10 (Or.inr ⟨rfl, by decide⟩) rfl ?_
    obtain ⟨a_4, ea_4, hf⟩ := x_bind hf
    refine sh_getR i198_11 f198_101 ea_4 ?_
    refine sh_aload (i' := 0) (n := 1) i198_14 (Or.inr ⟨rfl, by decide⟩) rfl ?_
    obtain ⟨v_5, ev_5, hf⟩ := x_bind hf
    refine sh_getI i198_15 f198_362 ev_5 ?_
    refine ev_do i198_18 rfl ?_
    refine ev_do i198_19 rfl ?_
    obtain ⟨v_6, ev_6, hf⟩ := x_bind hf
    refine sh_aldI (tg := 13) i198_20 (Or.inl ⟨rfl, rfl⟩) ev_6 ?_
    refine sh_goto (t := 28) i198_21 rfl ?_
    exact j198_28_ok hd rfl hf
end
section
def fn199 (o0 : Option Nat) (h : xH) : Option xH := (xcv h o0 11).bind fun _ => (fn197 o0 h).bind fun h_1 => (xcv h_1 o0 11).bind fun _ => (fn198 o0 h_1).bind fun h_2 => some h_2
theorem fn199_call {xs : List Int32} {d : Nat} (hd : 4 ≤ d) {o0 : Option Nat} {h : xH} {r : xH} (hf : fn199 o0 h = some r) : xCall (xTa xs) d 199 [xrv o0] h (none, r) := by
  obtain ⟨d, rfl⟩ : ∃ d2, d = d2 + 1 := ⟨d - 1, by omega⟩
  replace hd : 3 ≤ d := by omega
  refine call_of2 (fl := [xrv o0]) (Ls := [xrv o0]) m199 (by simp [xfl, xrv_cat, xc_i, xc_j, xc_a, xc_f]) (Nat.le_of_ble_eq_true rfl) rfl ?_
  unfold fn199 at hf
  refine sh_aload (i' := 0) (n := 1) i199_0 (Or.inr ⟨rfl, by decide⟩) rfl ?_
  obtain ⟨_, eu_4, hf⟩ := x_bind hf
  obtain ⟨h_1, eh_1, hf⟩ := x_bind hf
  refine sh_inv (as := []) (z := (none, h_1)) i199_1 v199_368 (Or.inl ⟨by decide, rfl⟩) m197 rfl (Nat.le_of_ble_eq_true rfl) eu_4 (fn197_call (by omega) eh_1) ?_
  refine sh_aload (i' := 0) (n := 1) i199_4 (Or.inr ⟨rfl, by decide⟩) rfl ?_
  obtain ⟨_, eu_3, hf⟩ := x_bind hf
  obtain ⟨h_2, eh_2, hf⟩ := x_bind hf
  refine sh_inv (as := []) (z := (none, h_2)) i199_5 v199_371 (Or.inl ⟨by decide, rfl⟩) m198 rfl (Nat.le_of_ble_eq_true rfl) eu_3 (fn198_call (by omega) eh_2) ?_
  obtain rfl := Option.some.inj hf
  exact sh_vret i199_8 m199 rfl
end
section
def l201_2  : Nat → Option Nat → Int32 → Int32 → xH → Option xH
  | 0 => fun _ _ _ _ => none
  | n + 1 => fun o0 x1 x2 h => (xgR h o0 11 8).bind fun a_1 => (xaI h 13 a_1 x1).bind fun v_2 => (if v_2 ≤ x2 then some h else (xgR h o0 11 7).bind fun a_4 => (xaI h 13 a_4 ((10 * x1) + x2)).bind fun v_5 => (xcv h o0 11).bind fun _ => (fn195 o0 v_5 h).bind fun h_6 => l201_2 n o0 x1 (x2 + 1) h_6)
theorem l201_2_ok {xs : List Int32} {d : Nat} (hd : 2 ≤ d) : ∀ (n : Nat) {o0 : Option Nat} {x1 : Int32} {x2 : Int32} {h : xH} {r : xH}, l201_2 n o0 x1 x2 h = some r → xEv (xTa xs) d 201 (2, [xrv o0, .int x1, .int x2], [], h) (none, r) := by
  intro n
  induction n with
  | zero => intros; rename_i hf; cases hf
  | succ n ih =>
    intro o0 x1 x2 h r hf
    replace hf : ((xgR h o0 11 8).bind fun a_1 => (xaI h 13 a_1 x1).bind fun v_2 => (if v_2 ≤ x2 then some h else (xgR h o0 11 7).bind fun a_4 => (xaI h 13 a_4 ((10 * x1) + x2)).bind fun v_5 => (xcv h o0 11).bind fun _ => (fn195 o0 v_5 h).bind fun h_6 => l201_2 n o0 x1 (x2 + 1) h_6)) = some r := hf
    refine ev_do i201_2 rfl ?_
    refine sh_aload (i' := 0) (n := 1) i201_3 (Or.inr ⟨rfl, by decide⟩) rfl ?_
    obtain ⟨a_1, ea_1, hf⟩ := x_bind hf
    refine sh_getR i201_4 f201_29 ea_1 ?_
    refine ev_do i201_7 rfl ?_
    obtain ⟨v_2, ev_2, hf⟩ := x_bind hf
    refine sh_aldI (tg := 13) i201_8 (Or.inl ⟨rfl, rfl⟩) ev_2 ?_
    refine ev_icmp (t := 33) i201_9 rfl (fun c_3 => ?_) (fun c_3 => ?_)
    · replace hf := x_pos (show v_2 ≤ x2 from c_3) hf
      obtain rfl := Option.some.inj hf
      exact sh_vret i201_33 m201 rfl
    · replace hf := x_neg (show ¬ v_2 ≤ x2 from c_3) hf
      refine sh_aload (i' := 0) (n := 1) i201_12 (Or.inr ⟨rfl, by decide⟩) rfl ?_
      refine sh_aload (i' := 0) (n := 1) i201_13 (Or.inr ⟨rfl, by decide⟩) rfl ?_
      obtain ⟨a_4, ea_4, hf⟩ := x_bind hf
      refine sh_getR i201_14 f201_26 ea_4 ?_
      refine ev_do i201_17 rfl ?_
      refine ev_do i201_19 rfl ?_
      refine ev_do i201_20 rfl ?_
      refine ev_do i201_21 rfl ?_
      refine ev_do i201_22 rfl ?_
      obtain ⟨v_5, ev_5, hf⟩ := x_bind hf
      refine sh_aldI (tg := 13) i201_23 (Or.inl ⟨rfl, rfl⟩) ev_5 ?_
      obtain ⟨_, eu_7, hf⟩ := x_bind hf
      obtain ⟨h_6, eh_6, hf⟩ := x_bind hf
      refine sh_inv (as := [.int v_5]) (z := (none, h_6)) i201_24 v201_359 (Or.inl ⟨by decide, rfl⟩) m195 rfl (Nat.le_of_ble_eq_true rfl) eu_7 (fn195_call (by omega) eh_6) ?_
      refine sh_inc (i' := 2) i201_27 rfl (xokst_of (Nat.le_of_ble_eq_true rfl) rfl) rfl ?_
      refine sh_goto (t := 2) i201_30 rfl ?_
      exact ih hf
def fn201 (o0 : Option Nat) (x1 : Int32) (h : xH) : Option xH := l201_2 xFuel o0 x1 0 h
theorem fn201_call {xs : List Int32} {d : Nat} (hd : 3 ≤ d) {o0 : Option Nat} {x1 : Int32} {h : xH} {r : xH} (hf : fn201 o0 x1 h = some r) : xCall (xTa xs) d 201 [xrv o0, .int x1] h (none, r) := by
  obtain ⟨d, rfl⟩ : ∃ d2, d = d2 + 1 := ⟨d - 1, by omega⟩
  replace hd : 2 ≤ d := by omega
  refine call_of2 (fl := [xrv o0, .int x1]) (Ls := [xrv o0, .int x1, .float 0]) m201 (by simp [xfl, xrv_cat, xc_i, xc_j, xc_a, xc_f]) (Nat.le_of_ble_eq_true rfl) rfl ?_
  unfold fn201 at hf
  refine ev_do i201_0 rfl ?_
  refine sh_istore (i' := 2) (n := 1) i201_1 (Or.inr ⟨rfl, by decide⟩) (xokst_of (Nat.le_of_ble_eq_true rfl) rfl) ?_
  exact l201_2_ok hd xFuel hf
end
section
def j200_25  (o0 : Option Nat) (x1 : Int32) (h : xH) : Option xH := (xcv h o0 11).bind fun _ => (fn201 o0 x1 h).bind fun h_1 => some h_1
theorem j200_25_ok {xs : List Int32} {d : Nat} (hd : 3 ≤ d) {o0 : Option Nat} {x1 : Int32} {h : xH} {r : xH} (hf : j200_25 o0 x1 h = some r) : xEv (xTa xs) d 200 (25, [xrv o0, .int x1], [], h) (none, r) := by
  unfold j200_25 at hf
  refine sh_aload (i' := 0) (n := 1) i200_25 (Or.inr ⟨rfl, by decide⟩) rfl ?_
  refine ev_do i200_26 rfl ?_
  obtain ⟨_, eu_2, hf⟩ := x_bind hf
  obtain ⟨h_1, eh_1, hf⟩ := x_bind hf
  refine sh_inv (as := [.int x1]) (z := (none, h_1)) i200_27 v200_374 (Or.inl ⟨by decide, rfl⟩) m201 rfl (Nat.le_of_ble_eq_true rfl) eu_2 (fn201_call (by omega) eh_1) ?_
  obtain rfl := Option.some.inj hf
  exact sh_vret i200_30 m200 rfl
def fn200 (o0 : Option Nat) (x1 : Int32) (h : xH) : Option xH := (xgR h o0 11 3).bind fun a_1 => (xaI h 14 a_1 x1).bind fun v_2 => (if v_2 = 0 then (xgR h o0 11 4).bind fun a_4 => (xaI h 13 a_4 x1).bind fun v_5 => (xcv h o0 11).bind fun _ => (fn201 o0 v_5 h).bind fun h_6 => (xcv h_6 o0 11).bind fun _ => (fn195 o0 46 h_6).bind fun h_7 => j200_25 o0 x1 h_7 else j200_25 o0 x1 h)
theorem fn200_call {xs : List Int32} {d : Nat} (hd : 4 ≤ d) {o0 : Option Nat} {x1 : Int32} {h : xH} {r : xH} (hf : fn200 o0 x1 h = some r) : xCall (xTa xs) d 200 [xrv o0, .int x1] h (none, r) := by
  obtain ⟨d, rfl⟩ : ∃ d2, d = d2 + 1 := ⟨d - 1, by omega⟩
  replace hd : 3 ≤ d := by omega
  refine call_of2 (fl := [xrv o0, .int x1]) (Ls := [xrv o0, .int x1]) m200 (by simp [xfl, xrv_cat, xc_i, xc_j, xc_a, xc_f]) (Nat.le_of_ble_eq_true rfl) rfl ?_
  unfold fn200 at hf
  refine sh_aload (i' := 0) (n := 1) i200_0 (Or.inr ⟨rfl, by decide⟩) rfl ?_
  obtain ⟨a_1, ea_1, hf⟩ := x_bind hf
  refine sh_getR i200_1 f200_13 ea_1 ?_
  refine ev_do i200_4 rfl ?_
  obtain ⟨v_2, ev_2, hf⟩ := x_bind hf
  refine sh_aldI (tg := 14) i200_5 (Or.inr (Or.inr ⟨rfl, rfl⟩)) ev_2 ?_
  refine ev_if (t := 25) i200_6 rfl (fun c_3 => ?_) (fun c_3 => ?_)
  · replace hf := x_neg (show ¬ v_2 = 0 from c_3) hf
    exact j200_25_ok hd hf
  · replace hf := x_pos (show v_2 = 0 from Decidable.byContradiction (fun h9 => c_3 h9)) hf
    refine sh_aload (i' := 0) (n := 1) i200_9 (Or.inr ⟨rfl, by decide⟩) rfl ?_
    refine sh_aload (i' := 0) (n := 1) i200_10 (Or.inr ⟨rfl, by decide⟩) rfl ?_
    obtain ⟨a_4, ea_4, hf⟩ := x_bind hf
    refine sh_getR i200_11 f200_17 ea_4 ?_
    refine ev_do i200_14 rfl ?_
    obtain ⟨v_5, ev_5, hf⟩ := x_bind hf
    refine sh_aldI (tg := 13) i200_15 (Or.inl ⟨rfl, rfl⟩) ev_5 ?_
    obtain ⟨_, eu_9, hf⟩ := x_bind hf
    obtain ⟨h_6, eh_6, hf⟩ := x_bind hf
    refine sh_inv (as := [.int v_5]) (z := (none, h_6)) i200_16 v200_374 (Or.inl ⟨by decide, rfl⟩) m201 rfl (Nat.le_of_ble_eq_true rfl) eu_9 (fn201_call (by omega) eh_6) ?_
    refine sh_aload (i' := 0) (n := 1) i200_19 (Or.inr ⟨rfl, by decide⟩) rfl ?_
    refine ev_do i200_20 rfl ?_
    obtain ⟨_, eu_8, hf⟩ := x_bind hf
    obtain ⟨h_7, eh_7, hf⟩ := x_bind hf
    refine sh_inv (as := [.int 46]) (z := (none, h_7)) i200_22 v200_359 (Or.inl ⟨by decide, rfl⟩) m195 rfl (Nat.le_of_ble_eq_true rfl) eu_8 (fn195_call (by omega) eh_7) ?_
    exact j200_25_ok hd hf
end
section
def fn202 (o0 : Option Nat) (h : xH) : Option xH := (xgR h o0 11 62).bind fun a_1 => (xgI h o0 11 63).bind fun v_2 => (xgI h o0 11 61).bind fun v_3 => (xaS h 13 (fun x => x) a_1 v_2 v_3).bind fun h_4 => (xgI h_4 o0 11 63).bind fun v_5 => (xpF h_4 o0 11 63 .int (.int (v_5 + 1))).bind fun h_6 => some h_6
theorem fn202_call {xs : List Int32} {d : Nat} (hd : 2 ≤ d) {o0 : Option Nat} {h : xH} {r : xH} (hf : fn202 o0 h = some r) : xCall (xTa xs) d 202 [xrv o0] h (none, r) := by
  obtain ⟨d, rfl⟩ : ∃ d2, d = d2 + 1 := ⟨d - 1, by omega⟩
  replace hd : 1 ≤ d := by omega
  refine call_of2 (fl := [xrv o0]) (Ls := [xrv o0]) m202 (by simp [xfl, xrv_cat, xc_i, xc_j, xc_a, xc_f]) (Nat.le_of_ble_eq_true rfl) rfl ?_
  unfold fn202 at hf
  refine sh_aload (i' := 0) (n := 1) i202_0 (Or.inr ⟨rfl, by decide⟩) rfl ?_
  obtain ⟨a_1, ea_1, hf⟩ := x_bind hf
  refine sh_getR i202_1 f202_119 ea_1 ?_
  refine sh_aload (i' := 0) (n := 1) i202_4 (Or.inr ⟨rfl, by decide⟩) rfl ?_
  obtain ⟨v_2, ev_2, hf⟩ := x_bind hf
  refine sh_getI i202_5 f202_377 ev_2 ?_
  refine sh_aload (i' := 0) (n := 1) i202_8 (Or.inr ⟨rfl, by decide⟩) rfl ?_
  obtain ⟨v_3, ev_3, hf⟩ := x_bind hf
  refine sh_getI i202_9 f202_380 ev_3 ?_
  obtain ⟨h_4, eh_4, hf⟩ := x_bind hf
  refine sh_ast (tg := 13) i202_12 (Or.inl ⟨rfl, rfl, rfl⟩) eh_4 ?_
  refine sh_aload (i' := 0) (n := 1) i202_13 (Or.inr ⟨rfl, by decide⟩) rfl ?_
  refine sh_dup i202_14 (xrv_cat (o0)) ?_
  obtain ⟨v_5, ev_5, hf⟩ := x_bind hf
  refine sh_getI i202_15 f202_377 ev_5 ?_
  refine ev_do i202_18 rfl ?_
  refine ev_do i202_19 rfl ?_
  obtain ⟨h_6, eh_6, hf⟩ := x_bind hf
  refine sh_put i202_20 f202_377 (by decide) rfl eh_6 ?_
  obtain rfl := Option.some.inj hf
  exact sh_vret i202_23 m202 rfl
end
section
def fn203 (o0 : Option Nat) (x1 : Int32) (h : xH) : Option xH := (xgR h o0 11 60).bind fun a_1 => (xgI h o0 11 61).bind fun v_2 => (xaS h 13 (fun x => x) a_1 v_2 x1).bind fun h_3 => (xgI h_3 o0 11 61).bind fun v_4 => (xpF h_3 o0 11 61 .int (.int (v_4 + 1))).bind fun h_5 => some h_5
theorem fn203_call {xs : List Int32} {d : Nat} (hd : 2 ≤ d) {o0 : Option Nat} {x1 : Int32} {h : xH} {r : xH} (hf : fn203 o0 x1 h = some r) : xCall (xTa xs) d 203 [xrv o0, .int x1] h (none, r) := by
  obtain ⟨d, rfl⟩ : ∃ d2, d = d2 + 1 := ⟨d - 1, by omega⟩
  replace hd : 1 ≤ d := by omega
  refine call_of2 (fl := [xrv o0, .int x1]) (Ls := [xrv o0, .int x1]) m203 (by simp [xfl, xrv_cat, xc_i, xc_j, xc_a, xc_f]) (Nat.le_of_ble_eq_true rfl) rfl ?_
  unfold fn203 at hf
  refine sh_aload (i' := 0) (n := 1) i203_0 (Or.inr ⟨rfl, by decide⟩) rfl ?_
  obtain ⟨a_1, ea_1, hf⟩ := x_bind hf
  refine sh_getR i203_1 f203_116 ea_1 ?_
  refine sh_aload (i' := 0) (n := 1) i203_4 (Or.inr ⟨rfl, by decide⟩) rfl ?_
  obtain ⟨v_2, ev_2, hf⟩ := x_bind hf
  refine sh_getI i203_5 f203_380 ev_2 ?_
  refine ev_do i203_8 rfl ?_
  obtain ⟨h_3, eh_3, hf⟩ := x_bind hf
  refine sh_ast (tg := 13) i203_9 (Or.inl ⟨rfl, rfl, rfl⟩) eh_3 ?_
  refine sh_aload (i' := 0) (n := 1) i203_10 (Or.inr ⟨rfl, by decide⟩) rfl ?_
  refine sh_dup i203_11 (xrv_cat (o0)) ?_
  obtain ⟨v_4, ev_4, hf⟩ := x_bind hf
  refine sh_getI i203_12 f203_380 ev_4 ?_
  refine ev_do i203_15 rfl ?_
  refine ev_do i203_16 rfl ?_
  obtain ⟨h_5, eh_5, hf⟩ := x_bind hf
  refine sh_put i203_17 f203_380 (by decide) rfl eh_5 ?_
  obtain rfl := Option.some.inj hf
  exact sh_vret i203_20 m203 rfl
end
section
def l204_3  : Nat → Option Nat → Int32 → Int32 → Int32 → Int32 → xH → Option xH
  | 0 => fun _ _ _ _ _ _ => none
  | n + 1 => fun o0 x1 x2 x3 x4 h => (if x3 ≤ x4 then some h else (xgR h o0 11 12).bind fun a_2 => (xaI h 13 a_2 (((600 * x1) + x2) + x4)).bind fun v_3 => (xcv h o0 11).bind fun _ => (fn203 o0 v_3 h).bind fun h_4 => l204_3 n o0 x1 x2 x3 (x4 + 1) h_4)
theorem l204_3_ok {xs : List Int32} {d : Nat} (hd : 2 ≤ d) : ∀ (n : Nat) {o0 : Option Nat} {x1 : Int32} {x2 : Int32} {x3 : Int32} {x4 : Int32} {h : xH} {r : xH}, l204_3 n o0 x1 x2 x3 x4 h = some r → xEv (xTa xs) d 204 (3, [xrv o0, .int x1, .int x2, .int x3, .int x4], [], h) (none, r) := by
  intro n
  induction n with
  | zero => intros; rename_i hf; cases hf
  | succ n ih =>
    intro o0 x1 x2 x3 x4 h r hf
    replace hf : ((if x3 ≤ x4 then some h else (xgR h o0 11 12).bind fun a_2 => (xaI h 13 a_2 (((600 * x1) + x2) + x4)).bind fun v_3 => (xcv h o0 11).bind fun _ => (fn203 o0 v_3 h).bind fun h_4 => l204_3 n o0 x1 x2 x3 (x4 + 1) h_4)) = some r := hf
    refine ev_do i204_3 rfl ?_
    refine ev_do i204_5 rfl ?_
    refine ev_icmp (t := 34) i204_6 rfl (fun c_1 => ?_) (fun c_1 => ?_)
    · replace hf := x_pos (show x3 ≤ x4 from c_1) hf
      obtain rfl := Option.some.inj hf
      exact sh_vret i204_34 m204 rfl
    · replace hf := x_neg (show ¬ x3 ≤ x4 from c_1) hf
      refine sh_aload (i' := 0) (n := 1) i204_9 (Or.inr ⟨rfl, by decide⟩) rfl ?_
      refine sh_aload (i' := 0) (n := 1) i204_10 (Or.inr ⟨rfl, by decide⟩) rfl ?_
      obtain ⟨a_2, ea_2, hf⟩ := x_bind hf
      refine sh_getR i204_11 f204_41 ea_2 ?_
      refine ev_do i204_14 rfl ?_
      refine ev_do i204_17 rfl ?_
      refine ev_do i204_18 rfl ?_
      refine ev_do i204_19 rfl ?_
      refine ev_do i204_20 rfl ?_
      refine ev_do i204_21 rfl ?_
      refine ev_do i204_23 rfl ?_
      obtain ⟨v_3, ev_3, hf⟩ := x_bind hf
      refine sh_aldI (tg := 13) i204_24 (Or.inl ⟨rfl, rfl⟩) ev_3 ?_
      obtain ⟨_, eu_5, hf⟩ := x_bind hf
      obtain ⟨h_4, eh_4, hf⟩ := x_bind hf
      refine sh_inv (as := [.int v_3]) (z := (none, h_4)) i204_25 v204_383 (Or.inl ⟨by decide, rfl⟩) m203 rfl (Nat.le_of_ble_eq_true rfl) eu_5 (fn203_call (by omega) eh_4) ?_
      refine sh_inc (i' := 4) i204_28 rfl (xokst_of (Nat.le_of_ble_eq_true rfl) rfl) rfl ?_
      refine sh_goto (t := 3) i204_31 rfl ?_
      exact ih hf
def fn204 (o0 : Option Nat) (x1 : Int32) (x2 : Int32) (x3 : Int32) (h : xH) : Option xH := l204_3 xFuel o0 x1 x2 x3 0 h
theorem fn204_call {xs : List Int32} {d : Nat} (hd : 3 ≤ d) {o0 : Option Nat} {x1 : Int32} {x2 : Int32} {x3 : Int32} {h : xH} {r : xH} (hf : fn204 o0 x1 x2 x3 h = some r) : xCall (xTa xs) d 204 [xrv o0, .int x1, .int x2, .int x3] h (none, r) := by
  obtain ⟨d, rfl⟩ : ∃ d2, d = d2 + 1 := ⟨d - 1, by omega⟩
  replace hd : 2 ≤ d := by omega
  refine call_of2 (fl := [xrv o0, .int x1, .int x2, .int x3]) (Ls := [xrv o0, .int x1, .int x2, .int x3, .float 0]) m204 (by simp [xfl, xrv_cat, xc_i, xc_j, xc_a, xc_f]) (Nat.le_of_ble_eq_true rfl) rfl ?_
  unfold fn204 at hf
  refine ev_do i204_0 rfl ?_
  refine sh_istore (i' := 4) (n := 2) i204_1 (Or.inl rfl) (xokst_of (Nat.le_of_ble_eq_true rfl) rfl) ?_
  exact l204_3_ok hd xFuel hf
end
section
def j205_28 (k3 : Option Nat → Int64 → Int32 → xH → Option xH) (o0 : Option Nat) (w1 : Int64) (x3 : Int32) (x4 : Int32) (h : xH) : Option xH := k3 o0 w1 (x3 + (-8)) h
theorem j205_28_ok {xs : List Int32} {d : Nat} (hd : 2 ≤ d) {k3 : Option Nat → Int64 → Int32 → xH → Option xH} (hk3 : ∀ {u4 : Value} {o0 : Option Nat} {w1 : Int64} {x3 : Int32} {h : xH} {r : xH}, u4.category = 1 → k3 o0 w1 x3 h = some r → xEv (xTa xs) d 205 (3, [xrv o0, .long w1, .float 0, .int x3, u4], [], h) (none, r)) {o0 : Option Nat} {w1 : Int64} {x3 : Int32} {x4 : Int32} {h : xH} {r : xH} (hf : j205_28 k3 o0 w1 x3 x4 h = some r) : xEv (xTa xs) d 205 (28, [xrv o0, .long w1, .float 0, .int x3, .int x4], [], h) (none, r) := by
  unfold j205_28 at hf
  refine sh_inc (i' := 3) i205_28 rfl (xokst_of (Nat.le_of_ble_eq_true rfl) rfl) rfl ?_
  refine sh_goto (t := 3) i205_31 rfl ?_
  exact hk3 rfl hf
def l205_3  : Nat → Option Nat → Int64 → Int32 → xH → Option xH
  | 0 => fun _ _ _ _ => none
  | n + 1 => fun o0 w1 x3 h => (if x3 < 0 then some h else (if (((w1 >>> (x3.toInt64 &&& 63)) &&& 255).toInt32) ≤ 0 then j205_28 (l205_3 n) o0 w1 x3 (((w1 >>> (x3.toInt64 &&& 63)) &&& 255).toInt32) h else (xcv h o0 11).bind fun _ => (fn203 o0 (((w1 >>> (x3.toInt64 &&& 63)) &&& 255).toInt32) h).bind fun h_3 => j205_28 (l205_3 n) o0 w1 x3 (((w1 >>> (x3.toInt64 &&& 63)) &&& 255).toInt32) h_3))
theorem l205_3_ok {xs : List Int32} {d : Nat} (hd : 2 ≤ d) : ∀ (n : Nat) {u4 : Value} {o0 : Option Nat} {w1 : Int64} {x3 : Int32} {h : xH} {r : xH} (hu4 : u4.category = 1), l205_3 n o0 w1 x3 h = some r → xEv (xTa xs) d 205 (3, [xrv o0, .long w1, .float 0, .int x3, u4], [], h) (none, r) := by
  intro n
  induction n with
  | zero => intros; rename_i hf; cases hf
  | succ n ih =>
    intro u4 o0 w1 x3 h r hu4 hf
    replace hf : ((if x3 < 0 then some h else (if (((w1 >>> (x3.toInt64 &&& 63)) &&& 255).toInt32) ≤ 0 then j205_28 (l205_3 n) o0 w1 x3 (((w1 >>> (x3.toInt64 &&& 63)) &&& 255).toInt32) h else (xcv h o0 11).bind fun _ => (fn203 o0 (((w1 >>> (x3.toInt64 &&& 63)) &&& 255).toInt32) h).bind fun h_3 => j205_28 (l205_3 n) o0 w1 x3 (((w1 >>> (x3.toInt64 &&& 63)) &&& 255).toInt32) h_3))) = some r := hf
    refine ev_do i205_3 rfl ?_
    refine ev_if (t := 34) i205_4 rfl (fun c_1 => ?_) (fun c_1 => ?_)
    · replace hf := x_pos (show x3 < 0 from c_1) hf
      obtain rfl := Option.some.inj hf
      exact sh_vret i205_34 m205 rfl
    · replace hf := x_neg (show ¬ x3 < 0 from c_1) hf
      refine ev_do i205_7 rfl ?_
      refine ev_do i205_8 rfl ?_
      refine ev_do i205_9 rfl ?_
      refine ev_do i205_10 (show xpush? 3 ((xtJ (xTa xs) 205 230).map .long) 10 _ _ _ = _ from by rw [w205_230]; rfl) ?_
      refine ev_do i205_13 rfl ?_
      refine ev_do i205_14 rfl ?_
      refine sh_istore (i' := 4) (n := 2) i205_15 (Or.inl rfl) (xokst_of (Nat.le_of_ble_eq_true rfl) rfl) ?_
      refine ev_do i205_17 rfl ?_
      refine ev_if (t := 28) i205_19 rfl (fun c_2 => ?_) (fun c_2 => ?_)
      · replace hf := x_pos (show (((w1 >>> (x3.toInt64 &&& 63)) &&& 255).toInt32) ≤ 0 from c_2) hf
        exact j205_28_ok hd ih hf
      · replace hf := x_neg (show ¬ (((w1 >>> (x3.toInt64 &&& 63)) &&& 255).toInt32) ≤ 0 from c_2) hf
        refine sh_aload (i' := 0) (n := 1) i205_22 (Or.inr ⟨rfl, by decide⟩) rfl ?_
        refine ev_do i205_23 rfl ?_
        obtain ⟨_, eu_4, hf⟩ := x_bind hf
        obtain ⟨h_3, eh_3, hf⟩ := x_bind hf
        refine sh_inv (as := [.int (((w1 >>> (x3.toInt64 &&& 63)) &&& 255).toInt32)]) (z := (none, h_3)) i205_25 v205_383 (Or.inl ⟨by decide, rfl⟩) m203 rfl (Nat.le_of_ble_eq_true rfl) eu_4 (fn203_call (by omega) eh_3) ?_
        exact j205_28_ok hd ih hf
def fn205 (o0 : Option Nat) (w1 : Int64) (h : xH) : Option xH := l205_3 xFuel o0 w1 40 h
theorem fn205_call {xs : List Int32} {d : Nat} (hd : 3 ≤ d) {o0 : Option Nat} {w1 : Int64} {h : xH} {r : xH} (hf : fn205 o0 w1 h = some r) : xCall (xTa xs) d 205 [xrv o0, .long w1] h (none, r) := by
  obtain ⟨d, rfl⟩ : ∃ d2, d = d2 + 1 := ⟨d - 1, by omega⟩
  replace hd : 2 ≤ d := by omega
  refine call_of2 (fl := [xrv o0, .long w1, .float 0]) (Ls := [xrv o0, .long w1, .float 0, .float 0, .float 0]) m205 (by simp [xfl, xrv_cat, xc_i, xc_j, xc_a, xc_f]) (Nat.le_of_ble_eq_true rfl) rfl ?_
  unfold fn205 at hf
  refine ev_do i205_0 rfl ?_
  refine sh_istore (i' := 3) (n := 1) i205_2 (Or.inr ⟨rfl, by decide⟩) (xokst_of (Nat.le_of_ble_eq_true rfl) rfl) ?_
  exact l205_3_ok hd xFuel rfl hf
end
section
def j206_105  (o0 : Option Nat) (x1 : Int32) (h : xH) : Option xH := (xcv h o0 11).bind fun _ => (fn203 o0 93 h).bind fun h_1 => some h_1
theorem j206_105_ok {xs : List Int32} {d : Nat} (hd : 2 ≤ d) {u2 : Value} {o0 : Option Nat} {x1 : Int32} {h : xH} {r : xH} (hu2 : u2.category = 1) (hf : j206_105 o0 x1 h = some r) : xEv (xTa xs) d 206 (105, [xrv o0, .int x1, u2], [], h) (none, r) := by
  unfold j206_105 at hf
  refine sh_aload (i' := 0) (n := 1) i206_105 (Or.inr ⟨rfl, by decide⟩) rfl ?_
  refine ev_do i206_106 rfl ?_
  obtain ⟨_, eu_2, hf⟩ := x_bind hf
  obtain ⟨h_1, eh_1, hf⟩ := x_bind hf
  refine sh_inv (as := [.int 93]) (z := (none, h_1)) i206_108 v206_383 (Or.inl ⟨by decide, rfl⟩) m203 rfl (Nat.le_of_ble_eq_true rfl) eu_2 (fn203_call (by omega) eh_1) ?_
  obtain rfl := Option.some.inj hf
  exact sh_vret i206_111 m206 rfl
def j206_92  (o0 : Option Nat) (x1 : Int32) (x2 : Int32) (h : xH) : Option xH := (xcv h o0 11).bind fun _ => (fn203 o0 (48 + (xrem (x2 + 1) 10)) h).bind fun h_1 => j206_105 o0 x1 h_1
theorem j206_92_ok {xs : List Int32} {d : Nat} (hd : 2 ≤ d) {o0 : Option Nat} {x1 : Int32} {x2 : Int32} {h : xH} {r : xH} (hf : j206_92 o0 x1 x2 h = some r) : xEv (xTa xs) d 206 (92, [xrv o0, .int x1, .int x2], [], h) (none, r) := by
  unfold j206_92 at hf
  refine sh_aload (i' := 0) (n := 1) i206_92 (Or.inr ⟨rfl, by decide⟩) rfl ?_
  refine ev_do i206_93 rfl ?_
  refine ev_do i206_95 rfl ?_
  refine ev_do i206_96 rfl ?_
  refine ev_do i206_97 rfl ?_
  refine ev_do i206_98 rfl ?_
  refine sh_rem i206_100 (by decide) ?_
  refine ev_do i206_101 rfl ?_
  obtain ⟨_, eu_2, hf⟩ := x_bind hf
  obtain ⟨h_1, eh_1, hf⟩ := x_bind hf
  refine sh_inv (as := [.int (48 + (xrem (x2 + 1) 10))]) (z := (none, h_1)) i206_102 v206_383 (Or.inl ⟨by decide, rfl⟩) m203 rfl (Nat.le_of_ble_eq_true rfl) eu_2 (fn203_call (by omega) eh_1) ?_
  exact j206_105_ok hd rfl hf
def j206_71  (o0 : Option Nat) (x1 : Int32) (x2 : Int32) (h : xH) : Option xH := (if (x2 + 1) ≤ 9 then j206_92 o0 x1 x2 h else (xcv h o0 11).bind fun _ => (fn203 o0 (48 + ((x2 + 1) / 10)) h).bind fun h_2 => j206_92 o0 x1 x2 h_2)
theorem j206_71_ok {xs : List Int32} {d : Nat} (hd : 2 ≤ d) {o0 : Option Nat} {x1 : Int32} {x2 : Int32} {h : xH} {r : xH} (hf : j206_71 o0 x1 x2 h = some r) : xEv (xTa xs) d 206 (71, [xrv o0, .int x1, .int x2], [], h) (none, r) := by
  unfold j206_71 at hf
  refine ev_do i206_71 rfl ?_
  refine ev_do i206_72 rfl ?_
  refine ev_do i206_73 rfl ?_
  refine ev_do i206_74 rfl ?_
  refine ev_icmp (t := 92) i206_76 rfl (fun c_1 => ?_) (fun c_1 => ?_)
  · replace hf := x_pos (show (x2 + 1) ≤ 9 from c_1) hf
    exact j206_92_ok hd hf
  · replace hf := x_neg (show ¬ (x2 + 1) ≤ 9 from c_1) hf
    refine sh_aload (i' := 0) (n := 1) i206_79 (Or.inr ⟨rfl, by decide⟩) rfl ?_
    refine ev_do i206_80 rfl ?_
    refine ev_do i206_82 rfl ?_
    refine ev_do i206_83 rfl ?_
    refine ev_do i206_84 rfl ?_
    refine ev_do i206_85 rfl ?_
    refine sh_div i206_87 (by decide) ?_
    refine ev_do i206_88 rfl ?_
    obtain ⟨_, eu_3, hf⟩ := x_bind hf
    obtain ⟨h_2, eh_2, hf⟩ := x_bind hf
    refine sh_inv (as := [.int (48 + ((x2 + 1) / 10))]) (z := (none, h_2)) i206_89 v206_383 (Or.inl ⟨by decide, rfl⟩) m203 rfl (Nat.le_of_ble_eq_true rfl) eu_3 (fn203_call (by omega) eh_2) ?_
    exact j206_92_ok hd hf
def j206_46  (o0 : Option Nat) (x1 : Int32) (x2 : Int32) (h : xH) : Option xH := (xgI h o0 11 51).bind fun v_1 => (if x2 = v_1 then (xgR h o0 11 50).bind fun a_3 => (xaS h 13 (fun x => x) a_3 x2 x1).bind fun h_4 => (xgI h_4 o0 11 51).bind fun v_5 => (xpF h_4 o0 11 51 .int (.int (v_5 + 1))).bind fun h_6 => j206_71 o0 x1 x2 h_6 else j206_71 o0 x1 x2 h)
theorem j206_46_ok {xs : List Int32} {d : Nat} (hd : 2 ≤ d) {o0 : Option Nat} {x1 : Int32} {x2 : Int32} {h : xH} {r : xH} (hf : j206_46 o0 x1 x2 h = some r) : xEv (xTa xs) d 206 (46, [xrv o0, .int x1, .int x2], [], h) (none, r) := by
  unfold j206_46 at hf
  refine ev_do i206_46 rfl ?_
  refine sh_aload (i' := 0) (n := 1) i206_47 (Or.inr ⟨rfl, by decide⟩) rfl ?_
  obtain ⟨v_1, ev_1, hf⟩ := x_bind hf
  refine sh_getI i206_48 f206_386 ev_1 ?_
  refine ev_icmp (t := 71) i206_51 rfl (fun c_2 => ?_) (fun c_2 => ?_)
  · replace hf := x_neg (show ¬ x2 = v_1 from c_2) hf
    exact j206_71_ok hd hf
  · replace hf := x_pos (show x2 = v_1 from Decidable.byContradiction (fun h9 => c_2 h9)) hf
    refine sh_aload (i' := 0) (n := 1) i206_54 (Or.inr ⟨rfl, by decide⟩) rfl ?_
    obtain ⟨a_3, ea_3, hf⟩ := x_bind hf
    refine sh_getR i206_55 f206_104 ea_3 ?_
    refine ev_do i206_58 rfl ?_
    refine ev_do i206_59 rfl ?_
    obtain ⟨h_4, eh_4, hf⟩ := x_bind hf
    refine sh_ast (tg := 13) i206_60 (Or.inl ⟨rfl, rfl, rfl⟩) eh_4 ?_
    refine sh_aload (i' := 0) (n := 1) i206_61 (Or.inr ⟨rfl, by decide⟩) rfl ?_
    refine sh_dup i206_62 (xrv_cat (o0)) ?_
    obtain ⟨v_5, ev_5, hf⟩ := x_bind hf
    refine sh_getI i206_63 f206_386 ev_5 ?_
    refine ev_do i206_66 rfl ?_
    refine ev_do i206_67 rfl ?_
    obtain ⟨h_6, eh_6, hf⟩ := x_bind hf
    refine sh_put i206_68 f206_386 (by decide) rfl eh_6 ?_
    exact j206_71_ok hd hf
def l206_22  : Nat → Option Nat → Int32 → Int32 → xH → Option xH
  | 0 => fun _ _ _ _ => none
  | n + 1 => fun o0 x1 x2 h => (xgI h o0 11 51).bind fun v_1 => (if v_1 ≤ x2 then j206_46 o0 x1 x2 h else (xgR h o0 11 50).bind fun a_3 => (xaI h 13 a_3 x2).bind fun v_4 => (if v_4 = x1 then j206_46 o0 x1 x2 h else l206_22 n o0 x1 (x2 + 1) h))
theorem l206_22_ok {xs : List Int32} {d : Nat} (hd : 2 ≤ d) : ∀ (n : Nat) {o0 : Option Nat} {x1 : Int32} {x2 : Int32} {h : xH} {r : xH}, l206_22 n o0 x1 x2 h = some r → xEv (xTa xs) d 206 (22, [xrv o0, .int x1, .int x2], [], h) (none, r) := by
  intro n
  induction n with
  | zero => intros; rename_i hf; cases hf
  | succ n ih =>
    intro o0 x1 x2 h r hf
    replace hf : ((xgI h o0 11 51).bind fun v_1 => (if v_1 ≤ x2 then j206_46 o0 x1 x2 h else (xgR h o0 11 50).bind fun a_3 => (xaI h 13 a_3 x2).bind fun v_4 => (if v_4 = x1 then j206_46 o0 x1 x2 h else l206_22 n o0 x1 (x2 + 1) h))) = some r := hf
    refine ev_do i206_22 rfl ?_
    refine sh_aload (i' := 0) (n := 1) i206_23 (Or.inr ⟨rfl, by decide⟩) rfl ?_
    obtain ⟨v_1, ev_1, hf⟩ := x_bind hf
    refine sh_getI i206_24 f206_386 ev_1 ?_
    refine ev_icmp (t := 46) i206_27 rfl (fun c_2 => ?_) (fun c_2 => ?_)
    · replace hf := x_pos (show v_1 ≤ x2 from c_2) hf
      exact j206_46_ok hd hf
    · replace hf := x_neg (show ¬ v_1 ≤ x2 from c_2) hf
      refine sh_aload (i' := 0) (n := 1) i206_30 (Or.inr ⟨rfl, by decide⟩) rfl ?_
      obtain ⟨a_3, ea_3, hf⟩ := x_bind hf
      refine sh_getR i206_31 f206_104 ea_3 ?_
      refine ev_do i206_34 rfl ?_
      obtain ⟨v_4, ev_4, hf⟩ := x_bind hf
      refine sh_aldI (tg := 13) i206_35 (Or.inl ⟨rfl, rfl⟩) ev_4 ?_
      refine ev_do i206_36 rfl ?_
      refine ev_icmp (t := 46) i206_37 rfl (fun c_5 => ?_) (fun c_5 => ?_)
      · replace hf := x_pos (show v_4 = x1 from c_5) hf
        exact j206_46_ok hd hf
      · replace hf := x_neg (show ¬ v_4 = x1 from c_5) hf
        refine sh_inc (i' := 2) i206_40 rfl (xokst_of (Nat.le_of_ble_eq_true rfl) rfl) rfl ?_
        refine sh_goto (t := 22) i206_43 rfl ?_
        exact ih hf
def fn206 (o0 : Option Nat) (x1 : Int32) (h : xH) : Option xH := (xcv h o0 11).bind fun _ => (fn203 o0 91 h).bind fun h_1 => (if x1 = (-1) then (xcv h_1 o0 11).bind fun _ => (fn203 o0 63 h_1).bind fun h_3 => j206_105 o0 x1 h_3 else l206_22 xFuel o0 x1 0 h_1)
theorem fn206_call {xs : List Int32} {d : Nat} (hd : 3 ≤ d) {o0 : Option Nat} {x1 : Int32} {h : xH} {r : xH} (hf : fn206 o0 x1 h = some r) : xCall (xTa xs) d 206 [xrv o0, .int x1] h (none, r) := by
  obtain ⟨d, rfl⟩ : ∃ d2, d = d2 + 1 := ⟨d - 1, by omega⟩
  replace hd : 2 ≤ d := by omega
  refine call_of2 (fl := [xrv o0, .int x1]) (Ls := [xrv o0, .int x1, .float 0]) m206 (by simp [xfl, xrv_cat, xc_i, xc_j, xc_a, xc_f]) (Nat.le_of_ble_eq_true rfl) rfl ?_
  unfold fn206 at hf
  refine sh_aload (i' := 0) (n := 1) i206_0 (Or.inr ⟨rfl, by decide⟩) rfl ?_
  refine ev_do i206_1 rfl ?_
  obtain ⟨_, eu_5, hf⟩ := x_bind hf
  obtain ⟨h_1, eh_1, hf⟩ := x_bind hf
  refine sh_inv (as := [.int 91]) (z := (none, h_1)) i206_3 v206_383 (Or.inl ⟨by decide, rfl⟩) m203 rfl (Nat.le_of_ble_eq_true rfl) eu_5 (fn203_call (by omega) eh_1) ?_
  refine ev_do i206_6 rfl ?_
  refine ev_do i206_7 rfl ?_
  refine ev_icmp (t := 20) i206_8 rfl (fun c_2 => ?_) (fun c_2 => ?_)
  · replace hf := x_neg (show ¬ x1 = (-1) from c_2) hf
    refine ev_do i206_20 rfl ?_
    refine sh_istore (i' := 2) (n := 1) i206_21 (Or.inr ⟨rfl, by decide⟩) (xokst_of (Nat.le_of_ble_eq_true rfl) rfl) ?_
    exact l206_22_ok hd xFuel hf
  · replace hf := x_pos (show x1 = (-1) from Decidable.byContradiction (fun h9 => c_2 h9)) hf
    refine sh_aload (i' := 0) (n := 1) i206_11 (Or.inr ⟨rfl, by decide⟩) rfl ?_
    refine ev_do i206_12 rfl ?_
    obtain ⟨_, eu_4, hf⟩ := x_bind hf
    obtain ⟨h_3, eh_3, hf⟩ := x_bind hf
    refine sh_inv (as := [.int 63]) (z := (none, h_3)) i206_14 v206_383 (Or.inl ⟨by decide, rfl⟩) m203 rfl (Nat.le_of_ble_eq_true rfl) eu_4 (fn203_call (by omega) eh_3) ?_
    refine sh_goto (t := 105) i206_17 rfl ?_
    exact j206_105_ok hd rfl hf
end
