section
def fn119 (o0 : Option Nat) (h : xH) : Option (Int32 × xH) := (xgR h o0 10 2).bind fun a_1 => (xgI h a_1 7 5).bind fun v_2 => some (v_2, h)
theorem fn119_call {xs : List Int32} {d : Nat} (hd : 2 ≤ d) {o0 : Option Nat} {h : xH} {r : (Int32 × xH)} (hf : fn119 o0 h = some r) : xCall (xTa xs) d 119 [xrv o0] h (some (.int r.1), r.2) := by
  obtain ⟨d, rfl⟩ : ∃ d2, d = d2 + 1 := ⟨d - 1, by omega⟩
  replace hd : 1 ≤ d := by omega
  refine call_of2 (fl := [xrv o0]) (Ls := [xrv o0]) m119 (by simp [xfl, xrv_cat, xc_i, xc_j, xc_a, xc_f]) (Nat.le_of_ble_eq_true rfl) rfl ?_
  unfold fn119 at hf
  refine sh_aload (i' := 0) (n := 1) i119_0 (Or.inr ⟨rfl, by decide⟩) rfl ?_
  obtain ⟨a_1, ea_1, hf⟩ := x_bind hf
  refine sh_getR i119_1 f119_28 ea_1 ?_
  obtain ⟨v_2, ev_2, hf⟩ := x_bind hf
  refine sh_getI i119_4 f119_118 ev_2 ?_
  obtain rfl := Option.some.inj hf
  exact sh_iret i119_7 m119 rfl rfl
end
section
def fn120 (o0 : Option Nat) (x1 : Int32) (h : xH) : Option (Int32 × xH) := (xgR h o0 10 1).bind fun a_1 => (xcv h a_1 8).bind fun _ => (fn83 a_1 x1 h).bind fun r_2 => (if r_2.1 = none then some ((-1), r_2.2) else (xcv r_2.2 r_2.1 2).bind fun _ => (fn14 r_2.1 r_2.2).bind fun r_4 => (if r_4.1 = none then some ((-2), r_4.2) else (xpF r_4.2 r_2.1 2 8 .boolean (.int 0)).bind fun h_6 => (xgI h_6 r_4.1 1 3).bind fun v_7 => some (v_7, h_6)))
theorem fn120_call {xs : List Int32} {d : Nat} (hd : 3 ≤ d) {o0 : Option Nat} {x1 : Int32} {h : xH} {r : (Int32 × xH)} (hf : fn120 o0 x1 h = some r) : xCall (xTa xs) d 120 [xrv o0, .int x1] h (some (.int r.1), r.2) := by
  obtain ⟨d, rfl⟩ : ∃ d2, d = d2 + 1 := ⟨d - 1, by omega⟩
  replace hd : 2 ≤ d := by omega
  refine call_of2 (fl := [xrv o0, .int x1]) (Ls := [xrv o0, .int x1, .float 0, .float 0]) m120 (by simp [xfl, xrv_cat, xc_i, xc_j, xc_a, xc_f]) (Nat.le_of_ble_eq_true rfl) rfl ?_
  unfold fn120 at hf
  refine sh_aload (i' := 0) (n := 1) i120_0 (Or.inr ⟨rfl, by decide⟩) rfl ?_
  obtain ⟨a_1, ea_1, hf⟩ := x_bind hf
  refine sh_getR i120_1 f120_21 ea_1 ?_
  refine ev_do i120_4 rfl ?_
  obtain ⟨_, eu_9, hf⟩ := x_bind hf
  obtain ⟨r_2, er_2, hf⟩ := x_bind hf
  refine sh_inv (as := [.int x1]) (z := (some (xrv r_2.1), r_2.2)) i120_5 v120_93 (Or.inl ⟨by decide, rfl⟩) m83 rfl (Nat.le_of_ble_eq_true rfl) eu_9 (fn83_call (by omega) er_2) ?_
  refine sh_astore (i' := 2) (n := 1) i120_8 (Or.inr ⟨rfl, by decide⟩) (xokst_of (Nat.le_of_ble_eq_true rfl) rfl) ?_
  refine sh_aload (i' := 2) (n := 1) i120_9 (Or.inr ⟨rfl, by decide⟩) rfl ?_
  refine sh_nnul (t := 15) i120_10 rfl (fun c_3 => ?_) (fun c_3 => ?_)
  · replace hf := x_pos c_3 hf
    refine ev_do i120_13 rfl ?_
    obtain rfl := Option.some.inj hf
    exact sh_iret i120_14 m120 rfl rfl
  · replace hf := x_neg c_3 hf
    refine sh_aload (i' := 2) (n := 1) i120_15 (Or.inr ⟨rfl, by decide⟩) rfl ?_
    obtain ⟨_, eu_8, hf⟩ := x_bind hf
    obtain ⟨r_4, er_4, hf⟩ := x_bind hf
    refine sh_inv (as := []) (z := (some (xrv r_4.1), r_4.2)) i120_16 v120_138 (Or.inl ⟨by decide, rfl⟩) m14 rfl (Nat.le_of_ble_eq_true rfl) eu_8 (fn14_call (by omega) er_4) ?_
    refine sh_astore (i' := 3) (n := 1) i120_19 (Or.inr ⟨rfl, by decide⟩) (xokst_of (Nat.le_of_ble_eq_true rfl) (xrv_cat (r_2.1))) ?_
    refine sh_aload (i' := 3) (n := 1) i120_20 (Or.inr ⟨rfl, by decide⟩) rfl ?_
    refine sh_nnul (t := 27) i120_21 rfl (fun c_5 => ?_) (fun c_5 => ?_)
    · replace hf := x_pos c_5 hf
      refine ev_do i120_24 rfl ?_
      obtain rfl := Option.some.inj hf
      exact sh_iret i120_26 m120 rfl rfl
    · replace hf := x_neg c_5 hf
      refine sh_aload (i' := 2) (n := 1) i120_27 (Or.inr ⟨rfl, by decide⟩) rfl ?_
      refine ev_do i120_28 rfl ?_
      obtain ⟨h_6, eh_6, hf⟩ := x_bind hf
      refine sh_put i120_29 f120_131 (by decide) rfl eh_6 ?_
      refine sh_aload (i' := 3) (n := 1) i120_32 (Or.inr ⟨rfl, by decide⟩) rfl ?_
      obtain ⟨v_7, ev_7, hf⟩ := x_bind hf
      refine sh_getI i120_33 f120_135 ev_7 ?_
      obtain rfl := Option.some.inj hf
      exact sh_iret i120_36 m120 rfl rfl
end
section
def j134_12  (o0 : Option Nat) (s0 : Int32) (h : xH) : Option (Int32 × xH) := some (s0, h)
theorem j134_12_ok {xs : List Int32} {d : Nat} (hd : 1 ≤ d) {o0 : Option Nat} {s0 : Int32} {h : xH} {r : (Int32 × xH)} (hf : j134_12 o0 s0 h = some r) : xEv (xTa xs) d 134 (12, [xrv o0], [.int s0], h) (some (.int r.1), r.2) := by
  unfold j134_12 at hf
  obtain rfl := Option.some.inj hf
  exact sh_iret i134_12 m134 rfl rfl
def fn134 (o0 : Option Nat) (h : xH) : Option (Int32 × xH) := (if o0 = none then j134_12 o0 (-1) h else (xgI h o0 2 0).bind fun v_2 => j134_12 o0 v_2 h)
theorem fn134_call {xs : List Int32} {d : Nat} (hd : 2 ≤ d) {o0 : Option Nat} {h : xH} {r : (Int32 × xH)} (hf : fn134 o0 h = some r) : xCall (xTa xs) d 134 [xrv o0] h (some (.int r.1), r.2) := by
  obtain ⟨d, rfl⟩ : ∃ d2, d = d2 + 1 := ⟨d - 1, by omega⟩
  replace hd : 1 ≤ d := by omega
  refine call_of2 (fl := [xrv o0]) (Ls := [xrv o0]) m134 (by simp [xfl, xrv_cat, xc_i, xc_j, xc_a, xc_f]) (Nat.le_of_ble_eq_true rfl) rfl ?_
  unfold fn134 at hf
  refine sh_aload (i' := 0) (n := 1) i134_0 (Or.inr ⟨rfl, by decide⟩) rfl ?_
  refine sh_nnul (t := 8) i134_1 rfl (fun c_1 => ?_) (fun c_1 => ?_)
  · replace hf := x_pos c_1 hf
    refine ev_do i134_4 rfl ?_
    refine sh_goto (t := 12) i134_5 rfl ?_
    exact j134_12_ok hd hf
  · replace hf := x_neg c_1 hf
    refine sh_aload (i' := 0) (n := 1) i134_8 (Or.inr ⟨rfl, by decide⟩) rfl ?_
    obtain ⟨v_2, ev_2, hf⟩ := x_bind hf
    refine sh_getI i134_9 f134_293 ev_2 ?_
    exact j134_12_ok hd hf
end
section
def j121_155  (o0 : Option Nat) (x1 : Int32) (x2 : Int32) (o3 : Option Nat) (o4 : Option Nat) (s0 : Int32) (h : xH) : Option (Int32 × xH) := some (s0, h)
theorem j121_155_ok {xs : List Int32} {d : Nat} (hd : 6 ≤ d) {o0 : Option Nat} {x1 : Int32} {x2 : Int32} {o3 : Option Nat} {o4 : Option Nat} {s0 : Int32} {h : xH} {r : (Int32 × xH)} (hf : j121_155 o0 x1 x2 o3 o4 s0 h = some r) : xEv (xTa xs) d 121 (155, [xrv o0, .int x1, .int x2, xrv o3, xrv o4], [.int s0], h) (some (.int r.1), r.2) := by
  unfold j121_155 at hf
  obtain rfl := Option.some.inj hf
  exact sh_iret i121_155 m121 rfl rfl
def j121_140  (o0 : Option Nat) (x1 : Int32) (x2 : Int32) (o3 : Option Nat) (o4 : Option Nat) (s0 : Int32) (h : xH) : Option (Int32 × xH) := some (s0, h)
theorem j121_140_ok {xs : List Int32} {d : Nat} (hd : 6 ≤ d) {o0 : Option Nat} {x1 : Int32} {x2 : Int32} {o3 : Option Nat} {o4 : Option Nat} {s0 : Int32} {h : xH} {r : (Int32 × xH)} (hf : j121_140 o0 x1 x2 o3 o4 s0 h = some r) : xEv (xTa xs) d 121 (140, [xrv o0, .int x1, .int x2, xrv o3, xrv o4], [.int s0], h) (some (.int r.1), r.2) := by
  unfold j121_140 at hf
  obtain rfl := Option.some.inj hf
  exact sh_iret i121_140 m121 rfl rfl
def j121_101  (o0 : Option Nat) (x1 : Int32) (x2 : Int32) (o3 : Option Nat) (o4 : Option Nat) (s0 : Int32) (h : xH) : Option (Int32 × xH) := some (s0, h)
theorem j121_101_ok {xs : List Int32} {d : Nat} (hd : 6 ≤ d) {o0 : Option Nat} {x1 : Int32} {x2 : Int32} {o3 : Option Nat} {o4 : Option Nat} {s0 : Int32} {h : xH} {r : (Int32 × xH)} (hf : j121_101 o0 x1 x2 o3 o4 s0 h = some r) : xEv (xTa xs) d 121 (101, [xrv o0, .int x1, .int x2, xrv o3, xrv o4], [.int s0], h) (some (.int r.1), r.2) := by
  unfold j121_101 at hf
  obtain rfl := Option.some.inj hf
  exact sh_iret i121_101 m121 rfl rfl
def fn121 (o0 : Option Nat) (x1 : Int32) (x2 : Int32) (h : xH) : Option (Int32 × xH) := (xgR h o0 10 1).bind fun a_1 => (xcv h a_1 8).bind fun _ => (fn83 a_1 x1 h).bind fun r_2 => (if r_2.1 = none then some ((-9), r_2.2) else (xcv r_2.2 r_2.1 2).bind fun _ => (fn14 r_2.1 r_2.2).bind fun r_4 => (if x2 = 0 then (xgR r_4.2 r_2.1 2 2).bind fun a_6 => (fn134 a_6 r_4.2).bind fun r_7 => some (r_7.1, r_7.2) else (if x2 = 1 then (xgR r_4.2 r_2.1 2 3).bind fun a_9 => (fn134 a_9 r_4.2).bind fun r_10 => some (r_10.1, r_10.2) else (if x2 = 2 then (xgI r_4.2 r_2.1 2 6).bind fun v_12 => some (v_12, r_4.2) else (if x2 = 3 then (xgI r_4.2 r_2.1 2 4).bind fun v_14 => (if v_14 = 0 then j121_101 o0 x1 x2 r_2.1 r_4.1 0 r_4.2 else j121_101 o0 x1 x2 r_2.1 r_4.1 1 r_4.2) else (if x2 = 4 then (xgR r_4.2 o0 10 1).bind fun a_17 => (xcv r_4.2 a_17 8).bind fun _ => (fn90 a_17 r_2.1 r_4.2).bind fun r_18 => (fn134 r_18.1 r_18.2).bind fun r_19 => some (r_19.1, r_19.2) else (if x2 = 5 then (xgR r_4.2 o0 10 1).bind fun a_22 => (xcv r_4.2 a_22 8).bind fun _ => (fn91 a_22 r_2.1 r_4.2).bind fun r_23 => (fn134 r_23.1 r_23.2).bind fun r_24 => some (r_24.1, r_24.2) else (if x2 = 6 then (if r_4.1 = none then j121_140 o0 x1 x2 r_2.1 r_4.1 0 r_4.2 else (xgI r_4.2 r_4.1 1 3).bind fun v_28 => j121_140 o0 x1 x2 r_2.1 r_4.1 v_28 r_4.2) else (if x2 = 7 then (if r_4.1 = none then j121_155 o0 x1 x2 r_2.1 r_4.1 0 r_4.2 else (xgI r_4.2 r_4.1 1 4).bind fun v_31 => j121_155 o0 x1 x2 r_2.1 r_4.1 v_31 r_4.2) else some ((-9), r_4.2))))))))))
theorem fn121_call {xs : List Int32} {d : Nat} (hd : 7 ≤ d) {o0 : Option Nat} {x1 : Int32} {x2 : Int32} {h : xH} {r : (Int32 × xH)} (hf : fn121 o0 x1 x2 h = some r) : xCall (xTa xs) d 121 [xrv o0, .int x1, .int x2] h (some (.int r.1), r.2) := by
  obtain ⟨d, rfl⟩ : ∃ d2, d = d2 + 1 := ⟨d - 1, by omega⟩
  replace hd : 6 ≤ d := by omega
  refine call_of2 (fl := [xrv o0, .int x1, .int x2]) (Ls := [xrv o0, .int x1, .int x2, .float 0, .float 0]) m121 (by simp [xfl, xrv_cat, xc_i, xc_j, xc_a, xc_f]) (Nat.le_of_ble_eq_true rfl) rfl ?_
  unfold fn121 at hf
  refine sh_aload (i' := 0) (n := 1) i121_0 (Or.inr ⟨rfl, by decide⟩) rfl ?_
  obtain ⟨a_1, ea_1, hf⟩ := x_bind hf
  refine sh_getR i121_1 f121_21 ea_1 ?_
  refine ev_do i121_4 rfl ?_
  obtain ⟨_, eu_33, hf⟩ := x_bind hf
  obtain ⟨r_2, er_2, hf⟩ := x_bind hf
  refine sh_inv (as := [.int x1]) (z := (some (xrv r_2.1), r_2.2)) i121_5 v121_93 (Or.inl ⟨by decide, rfl⟩) m83 rfl (Nat.le_of_ble_eq_true rfl) eu_33 (fn83_call (by omega) er_2) ?_
  refine sh_astore (i' := 3) (n := 1) i121_8 (Or.inr ⟨rfl, by decide⟩) (xokst_of (Nat.le_of_ble_eq_true rfl) rfl) ?_
  refine sh_aload (i' := 3) (n := 1) i121_9 (Or.inr ⟨rfl, by decide⟩) rfl ?_
  refine sh_nnul (t := 16) i121_10 rfl (fun c_3 => ?_) (fun c_3 => ?_)
  · replace hf := x_pos c_3 hf
    refine ev_do i121_13 rfl ?_
    obtain rfl := Option.some.inj hf
    exact sh_iret i121_15 m121 rfl rfl
  · replace hf := x_neg c_3 hf
    refine sh_aload (i' := 3) (n := 1) i121_16 (Or.inr ⟨rfl, by decide⟩) rfl ?_
    obtain ⟨_, eu_32, hf⟩ := x_bind hf
    obtain ⟨r_4, er_4, hf⟩ := x_bind hf
    refine sh_inv (as := []) (z := (some (xrv r_4.1), r_4.2)) i121_17 v121_138 (Or.inl ⟨by decide, rfl⟩) m14 rfl (Nat.le_of_ble_eq_true rfl) eu_32 (fn14_call (by omega) er_4) ?_
    refine sh_astore (i' := 4) (n := 2) i121_20 (Or.inl rfl) (xokst_of (Nat.le_of_ble_eq_true rfl) (xrv_cat (r_2.1))) ?_
    refine ev_do i121_22 rfl ?_
    by_cases c_5 : x2 = 0
    · replace hf := x_pos c_5 hf
      refine sh_tswC (c := 0) (t := 68) i121_23 (show (x2).toInt = 0 by rw [c_5]; rfl) (by decide) (by decide) rfl rfl ?_
      refine sh_aload (i' := 3) (n := 1) i121_68 (Or.inr ⟨rfl, by decide⟩) rfl ?_
      obtain ⟨a_6, ea_6, hf⟩ := x_bind hf
      refine sh_getR i121_69 f121_142 ea_6 ?_
      obtain ⟨r_7, er_7, hf⟩ := x_bind hf
      refine ev_sta (as := [xrv a_6]) (z := (some (.int r_7.1), r_7.2)) i121_72 v121_146 (Or.inl rfl) m134 rfl (Nat.le_of_ble_eq_true rfl) (fn134_call (by omega) er_7) ?_
      obtain rfl := Option.some.inj hf
      exact sh_iret i121_75 m121 rfl rfl
    · replace hf := x_neg c_5 hf
      by_cases c_8 : x2 = 1
      · replace hf := x_pos c_8 hf
        refine sh_tswC (c := 1) (t := 76) i121_23 (show (x2).toInt = 1 by rw [c_8]; rfl) (by decide) (by decide) rfl rfl ?_
        refine sh_aload (i' := 3) (n := 1) i121_76 (Or.inr ⟨rfl, by decide⟩) rfl ?_
        obtain ⟨a_9, ea_9, hf⟩ := x_bind hf
        refine sh_getR i121_77 f121_149 ea_9 ?_
        obtain ⟨r_10, er_10, hf⟩ := x_bind hf
        refine ev_sta (as := [xrv a_9]) (z := (some (.int r_10.1), r_10.2)) i121_80 v121_146 (Or.inl rfl) m134 rfl (Nat.le_of_ble_eq_true rfl) (fn134_call (by omega) er_10) ?_
        obtain rfl := Option.some.inj hf
        exact sh_iret i121_83 m121 rfl rfl
      · replace hf := x_neg c_8 hf
        by_cases c_11 : x2 = 2
        · replace hf := x_pos c_11 hf
          refine sh_tswC (c := 2) (t := 84) i121_23 (show (x2).toInt = 2 by rw [c_11]; rfl) (by decide) (by decide) rfl rfl ?_
          refine sh_aload (i' := 3) (n := 1) i121_84 (Or.inr ⟨rfl, by decide⟩) rfl ?_
          obtain ⟨v_12, ev_12, hf⟩ := x_bind hf
          refine sh_getI i121_85 f121_152 ev_12 ?_
          obtain rfl := Option.some.inj hf
          exact sh_iret i121_88 m121 rfl rfl
        · replace hf := x_neg c_11 hf
          by_cases c_13 : x2 = 3
          · replace hf := x_pos c_13 hf
            refine sh_tswC (c := 3) (t := 89) i121_23 (show (x2).toInt = 3 by rw [c_13]; rfl) (by decide) (by decide) rfl rfl ?_
            refine sh_aload (i' := 3) (n := 1) i121_89 (Or.inr ⟨rfl, by decide⟩) rfl ?_
            obtain ⟨v_14, ev_14, hf⟩ := x_bind hf
            refine sh_getI i121_90 f121_155 ev_14 ?_
            refine ev_if (t := 100) i121_93 rfl (fun c_15 => ?_) (fun c_15 => ?_)
            · replace hf := x_pos (show v_14 = 0 from c_15) hf
              refine ev_do i121_100 rfl ?_
              exact j121_101_ok hd hf
            · replace hf := x_neg (show ¬ v_14 = 0 from c_15) hf
              refine ev_do i121_96 rfl ?_
              refine sh_goto (t := 101) i121_97 rfl ?_
              exact j121_101_ok hd hf
          · replace hf := x_neg c_13 hf
            by_cases c_16 : x2 = 4
            · replace hf := x_pos c_16 hf
              refine sh_tswC (c := 4) (t := 102) i121_23 (show (x2).toInt = 4 by rw [c_16]; rfl) (by decide) (by decide) rfl rfl ?_
              refine sh_aload (i' := 0) (n := 1) i121_102 (Or.inr ⟨rfl, by decide⟩) rfl ?_
              obtain ⟨a_17, ea_17, hf⟩ := x_bind hf
              refine sh_getR i121_103 f121_21 ea_17 ?_
              refine sh_aload (i' := 3) (n := 1) i121_106 (Or.inr ⟨rfl, by decide⟩) rfl ?_
              obtain ⟨_, eu_20, hf⟩ := x_bind hf
              obtain ⟨r_18, er_18, hf⟩ := x_bind hf
              refine sh_inv (as := [xrv r_2.1]) (z := (some (xrv r_18.1), r_18.2)) i121_107 v121_158 (Or.inl ⟨by decide, rfl⟩) m90 rfl (Nat.le_of_ble_eq_true rfl) eu_20 (fn90_call (by omega) er_18) ?_
              obtain ⟨r_19, er_19, hf⟩ := x_bind hf
              refine ev_sta (as := [xrv r_18.1]) (z := (some (.int r_19.1), r_19.2)) i121_110 v121_146 (Or.inl rfl) m134 rfl (Nat.le_of_ble_eq_true rfl) (fn134_call (by omega) er_19) ?_
              obtain rfl := Option.some.inj hf
              exact sh_iret i121_113 m121 rfl rfl
            · replace hf := x_neg c_16 hf
              by_cases c_21 : x2 = 5
              · replace hf := x_pos c_21 hf
                refine sh_tswC (c := 5) (t := 114) i121_23 (show (x2).toInt = 5 by rw [c_21]; rfl) (by decide) (by decide) rfl rfl ?_
                refine sh_aload (i' := 0) (n := 1) i121_114 (Or.inr ⟨rfl, by decide⟩) rfl ?_
                obtain ⟨a_22, ea_22, hf⟩ := x_bind hf
                refine sh_getR i121_115 f121_21 ea_22 ?_
                refine sh_aload (i' := 3) (n := 1) i121_118 (Or.inr ⟨rfl, by decide⟩) rfl ?_
                obtain ⟨_, eu_25, hf⟩ := x_bind hf
                obtain ⟨r_23, er_23, hf⟩ := x_bind hf
                refine sh_inv (as := [xrv r_2.1]) (z := (some (xrv r_23.1), r_23.2)) i121_119 v121_162 (Or.inl ⟨by decide, rfl⟩) m91 rfl (Nat.le_of_ble_eq_true rfl) eu_25 (fn91_call (by omega) er_23) ?_
                obtain ⟨r_24, er_24, hf⟩ := x_bind hf
                refine ev_sta (as := [xrv r_23.1]) (z := (some (.int r_24.1), r_24.2)) i121_122 v121_146 (Or.inl rfl) m134 rfl (Nat.le_of_ble_eq_true rfl) (fn134_call (by omega) er_24) ?_
                obtain rfl := Option.some.inj hf
                exact sh_iret i121_125 m121 rfl rfl
              · replace hf := x_neg c_21 hf
                by_cases c_26 : x2 = 6
                · replace hf := x_pos c_26 hf
                  refine sh_tswC (c := 6) (t := 126) i121_23 (show (x2).toInt = 6 by rw [c_26]; rfl) (by decide) (by decide) rfl rfl ?_
                  refine sh_aload (i' := 4) (n := 2) i121_126 (Or.inl rfl) rfl ?_
                  refine sh_nnul (t := 135) i121_128 rfl (fun c_27 => ?_) (fun c_27 => ?_)
                  · replace hf := x_pos c_27 hf
                    refine ev_do i121_131 rfl ?_
                    refine sh_goto (t := 140) i121_132 rfl ?_
                    exact j121_140_ok hd hf
                  · replace hf := x_neg c_27 hf
                    refine sh_aload (i' := 4) (n := 2) i121_135 (Or.inl rfl) rfl ?_
                    obtain ⟨v_28, ev_28, hf⟩ := x_bind hf
                    refine sh_getI i121_137 f121_135 ev_28 ?_
                    exact j121_140_ok hd hf
                · replace hf := x_neg c_26 hf
                  by_cases c_29 : x2 = 7
                  · replace hf := x_pos c_29 hf
                    refine sh_tswC (c := 7) (t := 141) i121_23 (show (x2).toInt = 7 by rw [c_29]; rfl) (by decide) (by decide) rfl rfl ?_
                    refine sh_aload (i' := 4) (n := 2) i121_141 (Or.inl rfl) rfl ?_
                    refine sh_nnul (t := 150) i121_143 rfl (fun c_30 => ?_) (fun c_30 => ?_)
                    · replace hf := x_pos c_30 hf
                      refine ev_do i121_146 rfl ?_
                      refine sh_goto (t := 155) i121_147 rfl ?_
                      exact j121_155_ok hd hf
                    · replace hf := x_neg c_30 hf
                      refine sh_aload (i' := 4) (n := 2) i121_150 (Or.inl rfl) rfl ?_
                      obtain ⟨v_31, ev_31, hf⟩ := x_bind hf
                      refine sh_getI i121_152 f121_165 ev_31 ?_
                      exact j121_155_ok hd hf
                  · replace hf := x_neg c_29 hf
                    have nc_5 : (x2).toInt ≠ 0 := fun h9 => c_5 (Int32.toInt_inj.mp h9)
                    have nc_8 : (x2).toInt ≠ 1 := fun h9 => c_8 (Int32.toInt_inj.mp h9)
                    have nc_11 : (x2).toInt ≠ 2 := fun h9 => c_11 (Int32.toInt_inj.mp h9)
                    have nc_13 : (x2).toInt ≠ 3 := fun h9 => c_13 (Int32.toInt_inj.mp h9)
                    have nc_16 : (x2).toInt ≠ 4 := fun h9 => c_16 (Int32.toInt_inj.mp h9)
                    have nc_21 : (x2).toInt ≠ 5 := fun h9 => c_21 (Int32.toInt_inj.mp h9)
                    have nc_26 : (x2).toInt ≠ 6 := fun h9 => c_26 (Int32.toInt_inj.mp h9)
                    have nc_29 : (x2).toInt ≠ 7 := fun h9 => c_29 (Int32.toInt_inj.mp h9)
                    refine sh_tswD (t := 156) i121_23 (show (x2).toInt < 0 ∨ 7 < (x2).toInt by omega) rfl ?_
                    refine ev_do i121_156 rfl ?_
                    obtain rfl := Option.some.inj hf
                    exact sh_iret i121_158 m121 rfl rfl
end
section
def j133_21  (o0 : Option Nat) (x1 : Int32) (o2 : Option Nat) (s0 : Option Nat) (h : xH) : Option (Option Nat × xH) := some (s0, h)
theorem j133_21_ok {xs : List Int32} {d : Nat} (hd : 2 ≤ d) {o0 : Option Nat} {x1 : Int32} {o2 : Option Nat} {s0 : Option Nat} {h : xH} {r : (Option Nat × xH)} (hf : j133_21 o0 x1 o2 s0 h = some r) : xEv (xTa xs) d 133 (21, [xrv o0, .int x1, xrv o2], [xrv s0], h) (some (xrv r.1), r.2) := by
  unfold j133_21 at hf
  obtain rfl := Option.some.inj hf
  exact sh_aret i133_21 m133 rfl
def fn133 (o0 : Option Nat) (x1 : Int32) (h : xH) : Option (Option Nat × xH) := (xgR h o0 10 1).bind fun a_1 => (xcv h a_1 8).bind fun _ => (fn83 a_1 x1 h).bind fun r_2 => (if r_2.1 = none then j133_21 o0 x1 r_2.1 none r_2.2 else (xcv r_2.2 r_2.1 2).bind fun _ => (fn14 r_2.1 r_2.2).bind fun r_4 => j133_21 o0 x1 r_2.1 r_4.1 r_4.2)
theorem fn133_call {xs : List Int32} {d : Nat} (hd : 3 ≤ d) {o0 : Option Nat} {x1 : Int32} {h : xH} {r : (Option Nat × xH)} (hf : fn133 o0 x1 h = some r) : xCall (xTa xs) d 133 [xrv o0, .int x1] h (some (xrv r.1), r.2) := by
  obtain ⟨d, rfl⟩ : ∃ d2, d = d2 + 1 := ⟨d - 1, by omega⟩
  replace hd : 2 ≤ d := by omega
  refine call_of2 (fl := [xrv o0, .int x1]) (Ls := [xrv o0, .int x1, .float 0]) m133 (by simp [xfl, xrv_cat, xc_i, xc_j, xc_a, xc_f]) (Nat.le_of_ble_eq_true rfl) rfl ?_
  unfold fn133 at hf
  refine sh_aload (i' := 0) (n := 1) i133_0 (Or.inr ⟨rfl, by decide⟩) rfl ?_
  obtain ⟨a_1, ea_1, hf⟩ := x_bind hf
  refine sh_getR i133_1 f133_21 ea_1 ?_
  refine ev_do i133_4 rfl ?_
  obtain ⟨_, eu_6, hf⟩ := x_bind hf
  obtain ⟨r_2, er_2, hf⟩ := x_bind hf
  refine sh_inv (as := [.int x1]) (z := (some (xrv r_2.1), r_2.2)) i133_5 v133_93 (Or.inl ⟨by decide, rfl⟩) m83 rfl (Nat.le_of_ble_eq_true rfl) eu_6 (fn83_call (by omega) er_2) ?_
  refine sh_astore (i' := 2) (n := 1) i133_8 (Or.inr ⟨rfl, by decide⟩) (xokst_of (Nat.le_of_ble_eq_true rfl) rfl) ?_
  refine sh_aload (i' := 2) (n := 1) i133_9 (Or.inr ⟨rfl, by decide⟩) rfl ?_
  refine sh_nnul (t := 17) i133_10 rfl (fun c_3 => ?_) (fun c_3 => ?_)
  · replace hf := x_pos c_3 hf
    refine sh_cnull i133_13 ?_
    refine sh_goto (t := 21) i133_14 rfl ?_
    exact j133_21_ok hd hf
  · replace hf := x_neg c_3 hf
    refine sh_aload (i' := 2) (n := 1) i133_17 (Or.inr ⟨rfl, by decide⟩) rfl ?_
    obtain ⟨_, eu_5, hf⟩ := x_bind hf
    obtain ⟨r_4, er_4, hf⟩ := x_bind hf
    refine sh_inv (as := []) (z := (some (xrv r_4.1), r_4.2)) i133_18 v133_138 (Or.inl ⟨by decide, rfl⟩) m14 rfl (Nat.le_of_ble_eq_true rfl) eu_5 (fn14_call (by omega) er_4) ?_
    exact j133_21_ok hd hf
end
section
def j122_22  (o0 : Option Nat) (x1 : Int32) (x2 : Int32) (x3 : Int32) (o4 : Option Nat) (s0 : Option Nat) (h : xH) : Option (Int32 × xH) := (if s0 = none then some ((-9), h) else (if x3 = 0 then (xgI h s0 0 1).bind fun v_3 => some (v_3, h) else (if x3 = 1 then (xgI h s0 0 3).bind fun v_5 => some (v_5, h) else (if x3 = 2 then (xgI h s0 0 5).bind fun v_7 => some (v_7, h) else (if x3 = 3 then (xgI h s0 0 2).bind fun v_9 => some (v_9, h) else some ((-9), h))))))
theorem j122_22_ok {xs : List Int32} {d : Nat} (hd : 3 ≤ d) {u5 : Value} {o0 : Option Nat} {x1 : Int32} {x2 : Int32} {x3 : Int32} {o4 : Option Nat} {s0 : Option Nat} {h : xH} {r : (Int32 × xH)} (hu5 : u5.category = 1) (hf : j122_22 o0 x1 x2 x3 o4 s0 h = some r) : xEv (xTa xs) d 122 (22, [xrv o0, .int x1, .int x2, .int x3, xrv o4, u5], [xrv s0], h) (some (.int r.1), r.2) := by
  unfold j122_22 at hf
  refine sh_astore (i' := 5) (n := 2) i122_22 (Or.inl rfl) (xokst_of (Nat.le_of_ble_eq_true rfl) (xrv_cat (o4))) ?_
  refine sh_aload (i' := 5) (n := 2) i122_24 (Or.inl rfl) rfl ?_
  refine sh_nnul (t := 32) i122_26 rfl (fun c_1 => ?_) (fun c_1 => ?_)
  · replace hf := x_pos c_1 hf
    refine ev_do i122_29 rfl ?_
    obtain rfl := Option.some.inj hf
    exact sh_iret i122_31 m122 rfl rfl
  · replace hf := x_neg c_1 hf
    refine ev_do i122_32 rfl ?_
    by_cases c_2 : x3 = 0
    · replace hf := x_pos c_2 hf
      refine sh_tswC (c := 0) (t := 64) i122_33 (show (x3).toInt = 0 by rw [c_2]; rfl) (by decide) (by decide) rfl rfl ?_
      refine sh_aload (i' := 5) (n := 2) i122_64 (Or.inl rfl) rfl ?_
      obtain ⟨v_3, ev_3, hf⟩ := x_bind hf
      refine sh_getI i122_66 f122_176 ev_3 ?_
      obtain rfl := Option.some.inj hf
      exact sh_iret i122_69 m122 rfl rfl
    · replace hf := x_neg c_2 hf
      by_cases c_4 : x3 = 1
      · replace hf := x_pos c_4 hf
        refine sh_tswC (c := 1) (t := 70) i122_33 (show (x3).toInt = 1 by rw [c_4]; rfl) (by decide) (by decide) rfl rfl ?_
        refine sh_aload (i' := 5) (n := 2) i122_70 (Or.inl rfl) rfl ?_
        obtain ⟨v_5, ev_5, hf⟩ := x_bind hf
        refine sh_getI i122_72 f122_181 ev_5 ?_
        obtain rfl := Option.some.inj hf
        exact sh_iret i122_75 m122 rfl rfl
      · replace hf := x_neg c_4 hf
        by_cases c_6 : x3 = 2
        · replace hf := x_pos c_6 hf
          refine sh_tswC (c := 2) (t := 76) i122_33 (show (x3).toInt = 2 by rw [c_6]; rfl) (by decide) (by decide) rfl rfl ?_
          refine sh_aload (i' := 5) (n := 2) i122_76 (Or.inl rfl) rfl ?_
          obtain ⟨v_7, ev_7, hf⟩ := x_bind hf
          refine sh_getI i122_78 f122_184 ev_7 ?_
          obtain rfl := Option.some.inj hf
          exact sh_iret i122_81 m122 rfl rfl
        · replace hf := x_neg c_6 hf
          by_cases c_8 : x3 = 3
          · replace hf := x_pos c_8 hf
            refine sh_tswC (c := 3) (t := 82) i122_33 (show (x3).toInt = 3 by rw [c_8]; rfl) (by decide) (by decide) rfl rfl ?_
            refine sh_aload (i' := 5) (n := 2) i122_82 (Or.inl rfl) rfl ?_
            obtain ⟨v_9, ev_9, hf⟩ := x_bind hf
            refine sh_getI i122_84 f122_185 ev_9 ?_
            obtain rfl := Option.some.inj hf
            exact sh_iret i122_87 m122 rfl rfl
          · replace hf := x_neg c_8 hf
            have nc_2 : (x3).toInt ≠ 0 := fun h9 => c_2 (Int32.toInt_inj.mp h9)
            have nc_4 : (x3).toInt ≠ 1 := fun h9 => c_4 (Int32.toInt_inj.mp h9)
            have nc_6 : (x3).toInt ≠ 2 := fun h9 => c_6 (Int32.toInt_inj.mp h9)
            have nc_8 : (x3).toInt ≠ 3 := fun h9 => c_8 (Int32.toInt_inj.mp h9)
            refine sh_tswD (t := 88) i122_33 (show (x3).toInt < 0 ∨ 3 < (x3).toInt by omega) rfl ?_
            refine ev_do i122_88 rfl ?_
            obtain rfl := Option.some.inj hf
            exact sh_iret i122_90 m122 rfl rfl
def fn122 (o0 : Option Nat) (x1 : Int32) (x2 : Int32) (x3 : Int32) (h : xH) : Option (Int32 × xH) := (xcv h o0 10).bind fun _ => (fn133 o0 x1 h).bind fun r_1 => (if r_1.1 = none then j122_22 o0 x1 x2 x3 r_1.1 none r_1.2 else (xcv r_1.2 r_1.1 1).bind fun _ => (fn5 r_1.1 x2 r_1.2).bind fun r_3 => j122_22 o0 x1 x2 x3 r_1.1 r_3.1 r_3.2)
theorem fn122_call {xs : List Int32} {d : Nat} (hd : 4 ≤ d) {o0 : Option Nat} {x1 : Int32} {x2 : Int32} {x3 : Int32} {h : xH} {r : (Int32 × xH)} (hf : fn122 o0 x1 x2 x3 h = some r) : xCall (xTa xs) d 122 [xrv o0, .int x1, .int x2, .int x3] h (some (.int r.1), r.2) := by
  obtain ⟨d, rfl⟩ : ∃ d2, d = d2 + 1 := ⟨d - 1, by omega⟩
  replace hd : 3 ≤ d := by omega
  refine call_of2 (fl := [xrv o0, .int x1, .int x2, .int x3]) (Ls := [xrv o0, .int x1, .int x2, .int x3, .float 0, .float 0]) m122 (by simp [xfl, xrv_cat, xc_i, xc_j, xc_a, xc_f]) (Nat.le_of_ble_eq_true rfl) rfl ?_
  unfold fn122 at hf
  refine sh_aload (i' := 0) (n := 1) i122_0 (Or.inr ⟨rfl, by decide⟩) rfl ?_
  refine ev_do i122_1 rfl ?_
  obtain ⟨_, eu_5, hf⟩ := x_bind hf
  obtain ⟨r_1, er_1, hf⟩ := x_bind hf
  refine sh_inv (as := [.int x1]) (z := (some (xrv r_1.1), r_1.2)) i122_2 v122_168 (Or.inl ⟨by decide, rfl⟩) m133 rfl (Nat.le_of_ble_eq_true rfl) eu_5 (fn133_call (by omega) er_1) ?_
  refine sh_astore (i' := 4) (n := 2) i122_5 (Or.inl rfl) (xokst_of (Nat.le_of_ble_eq_true rfl) rfl) ?_
  refine sh_aload (i' := 4) (n := 2) i122_7 (Or.inl rfl) rfl ?_
  refine sh_nnul (t := 16) i122_9 rfl (fun c_2 => ?_) (fun c_2 => ?_)
  · replace hf := x_pos c_2 hf
    refine sh_cnull i122_12 ?_
    refine sh_goto (t := 22) i122_13 rfl ?_
    exact j122_22_ok hd rfl hf
  · replace hf := x_neg c_2 hf
    refine sh_aload (i' := 4) (n := 2) i122_16 (Or.inl rfl) rfl ?_
    refine ev_do i122_18 rfl ?_
    obtain ⟨_, eu_4, hf⟩ := x_bind hf
    obtain ⟨r_3, er_3, hf⟩ := x_bind hf
    refine sh_inv (as := [.int x2]) (z := (some (xrv r_3.1), r_3.2)) i122_19 v122_172 (Or.inl ⟨by decide, rfl⟩) m5 rfl (Nat.le_of_ble_eq_true rfl) eu_4 (fn5_call (by omega) er_3) ?_
    exact j122_22_ok hd rfl hf
end
section
def j123_149  (o0 : Option Nat) (x1 : Int32) (x2 : Int32) (x3 : Int32) (o4 : Option Nat) (o5 : Option Nat) (s0 : Int32) (h : xH) : Option (Int32 × xH) := some (s0, h)
theorem j123_149_ok {xs : List Int32} {d : Nat} (hd : 5 ≤ d) {o0 : Option Nat} {x1 : Int32} {x2 : Int32} {x3 : Int32} {o4 : Option Nat} {o5 : Option Nat} {s0 : Int32} {h : xH} {r : (Int32 × xH)} (hf : j123_149 o0 x1 x2 x3 o4 o5 s0 h = some r) : xEv (xTa xs) d 123 (149, [xrv o0, .int x1, .int x2, .int x3, xrv o4, xrv o5], [.int s0], h) (some (.int r.1), r.2) := by
  unfold j123_149 at hf
  obtain rfl := Option.some.inj hf
  exact sh_iret i123_149 m123 rfl rfl
def j123_105  (o0 : Option Nat) (x1 : Int32) (x2 : Int32) (x3 : Int32) (o4 : Option Nat) (o5 : Option Nat) (s0 : Int32) (h : xH) : Option (Int32 × xH) := some (s0, h)
theorem j123_105_ok {xs : List Int32} {d : Nat} (hd : 5 ≤ d) {o0 : Option Nat} {x1 : Int32} {x2 : Int32} {x3 : Int32} {o4 : Option Nat} {o5 : Option Nat} {s0 : Int32} {h : xH} {r : (Int32 × xH)} (hf : j123_105 o0 x1 x2 x3 o4 o5 s0 h = some r) : xEv (xTa xs) d 123 (105, [xrv o0, .int x1, .int x2, .int x3, xrv o4, xrv o5], [.int s0], h) (some (.int r.1), r.2) := by
  unfold j123_105 at hf
  obtain rfl := Option.some.inj hf
  exact sh_iret i123_105 m123 rfl rfl
def j123_22  (o0 : Option Nat) (x1 : Int32) (x2 : Int32) (x3 : Int32) (o4 : Option Nat) (s0 : Option Nat) (h : xH) : Option (Int32 × xH) := (if s0 = none then some ((-9), h) else (if x3 = 0 then (xgI h s0 6 0).bind fun v_3 => some (v_3, h) else (if x3 = 1 then (xgI h s0 6 1).bind fun v_5 => some (v_5, h) else (if x3 = 2 then (xgI h s0 6 3).bind fun v_7 => (xgI h s0 6 2).bind fun v_8 => some (v_7 - v_8, h) else (if x3 = 3 then (xgI h s0 6 6).bind fun v_10 => (if v_10 = 0 then j123_105 o0 x1 x2 x3 o4 s0 0 h else j123_105 o0 x1 x2 x3 o4 s0 1 h) else (if x3 = 4 then (xgI h s0 6 0).bind fun v_13 => (if v_13 = 2 then (xgR h o0 10 1).bind fun a_15 => (xgR h o4 1 0).bind fun a_16 => (xgI h s0 6 4).bind fun v_17 => (xgI h s0 6 5).bind fun v_18 => (xgR h o4 1 5).bind fun a_19 => (xcv h a_15 8).bind fun _ => (fn93 a_15 a_16 v_17 v_18 a_19 h).bind fun r_20 => (fn134 r_20.1 r_20.2).bind fun r_21 => j123_149 o0 x1 x2 x3 o4 s0 r_21.1 r_21.2 else j123_149 o0 x1 x2 x3 o4 s0 (-1) h) else some ((-9), h)))))))
theorem j123_22_ok {xs : List Int32} {d : Nat} (hd : 5 ≤ d) {u5 : Value} {o0 : Option Nat} {x1 : Int32} {x2 : Int32} {x3 : Int32} {o4 : Option Nat} {s0 : Option Nat} {h : xH} {r : (Int32 × xH)} (hu5 : u5.category = 1) (hf : j123_22 o0 x1 x2 x3 o4 s0 h = some r) : xEv (xTa xs) d 123 (22, [xrv o0, .int x1, .int x2, .int x3, xrv o4, u5], [xrv s0], h) (some (.int r.1), r.2) := by
  unfold j123_22 at hf
  refine sh_astore (i' := 5) (n := 2) i123_22 (Or.inl rfl) (xokst_of (Nat.le_of_ble_eq_true rfl) (xrv_cat (o4))) ?_
  refine sh_aload (i' := 5) (n := 2) i123_24 (Or.inl rfl) rfl ?_
  refine sh_nnul (t := 32) i123_26 rfl (fun c_1 => ?_) (fun c_1 => ?_)
  · replace hf := x_pos c_1 hf
    refine ev_do i123_29 rfl ?_
    obtain rfl := Option.some.inj hf
    exact sh_iret i123_31 m123 rfl rfl
  · replace hf := x_neg c_1 hf
    refine ev_do i123_32 rfl ?_
    by_cases c_2 : x3 = 0
    · replace hf := x_pos c_2 hf
      refine sh_tswC (c := 0) (t := 68) i123_33 (show (x3).toInt = 0 by rw [c_2]; rfl) (by decide) (by decide) rfl rfl ?_
      refine sh_aload (i' := 5) (n := 2) i123_68 (Or.inl rfl) rfl ?_
      obtain ⟨v_3, ev_3, hf⟩ := x_bind hf
      refine sh_getI i123_70 f123_190 ev_3 ?_
      obtain rfl := Option.some.inj hf
      exact sh_iret i123_73 m123 rfl rfl
    · replace hf := x_neg c_2 hf
      by_cases c_4 : x3 = 1
      · replace hf := x_pos c_4 hf
        refine sh_tswC (c := 1) (t := 74) i123_33 (show (x3).toInt = 1 by rw [c_4]; rfl) (by decide) (by decide) rfl rfl ?_
        refine sh_aload (i' := 5) (n := 2) i123_74 (Or.inl rfl) rfl ?_
        obtain ⟨v_5, ev_5, hf⟩ := x_bind hf
        refine sh_getI i123_76 f123_193 ev_5 ?_
        obtain rfl := Option.some.inj hf
        exact sh_iret i123_79 m123 rfl rfl
      · replace hf := x_neg c_4 hf
        by_cases c_6 : x3 = 2
        · replace hf := x_pos c_6 hf
          refine sh_tswC (c := 2) (t := 80) i123_33 (show (x3).toInt = 2 by rw [c_6]; rfl) (by decide) (by decide) rfl rfl ?_
          refine sh_aload (i' := 5) (n := 2) i123_80 (Or.inl rfl) rfl ?_
          obtain ⟨v_7, ev_7, hf⟩ := x_bind hf
          refine sh_getI i123_82 f123_194 ev_7 ?_
          refine sh_aload (i' := 5) (n := 2) i123_85 (Or.inl rfl) rfl ?_
          obtain ⟨v_8, ev_8, hf⟩ := x_bind hf
          refine sh_getI i123_87 f123_197 ev_8 ?_
          refine ev_do i123_90 rfl ?_
          obtain rfl := Option.some.inj hf
          exact sh_iret i123_91 m123 rfl rfl
        · replace hf := x_neg c_6 hf
          by_cases c_9 : x3 = 3
          · replace hf := x_pos c_9 hf
            refine sh_tswC (c := 3) (t := 92) i123_33 (show (x3).toInt = 3 by rw [c_9]; rfl) (by decide) (by decide) rfl rfl ?_
            refine sh_aload (i' := 5) (n := 2) i123_92 (Or.inl rfl) rfl ?_
            obtain ⟨v_10, ev_10, hf⟩ := x_bind hf
            refine sh_getI i123_94 f123_200 ev_10 ?_
            refine ev_if (t := 104) i123_97 rfl (fun c_11 => ?_) (fun c_11 => ?_)
            · replace hf := x_pos (show v_10 = 0 from c_11) hf
              refine ev_do i123_104 rfl ?_
              exact j123_105_ok hd hf
            · replace hf := x_neg (show ¬ v_10 = 0 from c_11) hf
              refine ev_do i123_100 rfl ?_
              refine sh_goto (t := 105) i123_101 rfl ?_
              exact j123_105_ok hd hf
          · replace hf := x_neg c_9 hf
            by_cases c_12 : x3 = 4
            · replace hf := x_pos c_12 hf
              refine sh_tswC (c := 4) (t := 106) i123_33 (show (x3).toInt = 4 by rw [c_12]; rfl) (by decide) (by decide) rfl rfl ?_
              refine sh_aload (i' := 5) (n := 2) i123_106 (Or.inl rfl) rfl ?_
              obtain ⟨v_13, ev_13, hf⟩ := x_bind hf
              refine sh_getI i123_108 f123_190 ev_13 ?_
              refine ev_do i123_111 rfl ?_
              refine ev_icmp (t := 119) i123_112 rfl (fun c_14 => ?_) (fun c_14 => ?_)
              · replace hf := x_pos (show v_13 = 2 from c_14) hf
                refine sh_aload (i' := 0) (n := 1) i123_119 (Or.inr ⟨rfl, by decide⟩) rfl ?_
                obtain ⟨a_15, ea_15, hf⟩ := x_bind hf
                refine sh_getR i123_120 f123_21 ea_15 ?_
                refine sh_aload (i' := 4) (n := 2) i123_123 (Or.inl rfl) rfl ?_
                obtain ⟨a_16, ea_16, hf⟩ := x_bind hf
                refine sh_getR i123_125 f123_203 ea_16 ?_
                refine sh_aload (i' := 5) (n := 2) i123_128 (Or.inl rfl) rfl ?_
                obtain ⟨v_17, ev_17, hf⟩ := x_bind hf
                refine sh_getI i123_130 f123_206 ev_17 ?_
                refine sh_aload (i' := 5) (n := 2) i123_133 (Or.inl rfl) rfl ?_
                obtain ⟨v_18, ev_18, hf⟩ := x_bind hf
                refine sh_getI i123_135 f123_209 ev_18 ?_
                refine sh_aload (i' := 4) (n := 2) i123_138 (Or.inl rfl) rfl ?_
                obtain ⟨a_19, ea_19, hf⟩ := x_bind hf
                refine sh_getR i123_140 f123_212 ea_19 ?_
                obtain ⟨_, eu_22, hf⟩ := x_bind hf
                obtain ⟨r_20, er_20, hf⟩ := x_bind hf
                refine sh_inv (as := [xrv a_19, .int v_18, .int v_17, xrv a_16]) (z := (some (xrv r_20.1), r_20.2)) i123_143 v123_215 (Or.inl ⟨by decide, rfl⟩) m93 rfl (Nat.le_of_ble_eq_true rfl) eu_22 (fn93_call (by omega) er_20) ?_
                obtain ⟨r_21, er_21, hf⟩ := x_bind hf
                refine ev_sta (as := [xrv r_20.1]) (z := (some (.int r_21.1), r_21.2)) i123_146 v123_146 (Or.inl rfl) m134 rfl (Nat.le_of_ble_eq_true rfl) (fn134_call (by omega) er_21) ?_
                exact j123_149_ok hd hf
              · replace hf := x_neg (show ¬ v_13 = 2 from c_14) hf
                refine ev_do i123_115 rfl ?_
                refine sh_goto (t := 149) i123_116 rfl ?_
                exact j123_149_ok hd hf
            · replace hf := x_neg c_12 hf
              have nc_2 : (x3).toInt ≠ 0 := fun h9 => c_2 (Int32.toInt_inj.mp h9)
              have nc_4 : (x3).toInt ≠ 1 := fun h9 => c_4 (Int32.toInt_inj.mp h9)
              have nc_6 : (x3).toInt ≠ 2 := fun h9 => c_6 (Int32.toInt_inj.mp h9)
              have nc_9 : (x3).toInt ≠ 3 := fun h9 => c_9 (Int32.toInt_inj.mp h9)
              have nc_12 : (x3).toInt ≠ 4 := fun h9 => c_12 (Int32.toInt_inj.mp h9)
              refine sh_tswD (t := 150) i123_33 (show (x3).toInt < 0 ∨ 4 < (x3).toInt by omega) rfl ?_
              refine ev_do i123_150 rfl ?_
              obtain rfl := Option.some.inj hf
              exact sh_iret i123_152 m123 rfl rfl
def fn123 (o0 : Option Nat) (x1 : Int32) (x2 : Int32) (x3 : Int32) (h : xH) : Option (Int32 × xH) := (xcv h o0 10).bind fun _ => (fn133 o0 x1 h).bind fun r_1 => (if r_1.1 = none then j123_22 o0 x1 x2 x3 r_1.1 none r_1.2 else (xcv r_1.2 r_1.1 1).bind fun _ => (fn6 r_1.1 x2 r_1.2).bind fun r_3 => j123_22 o0 x1 x2 x3 r_1.1 r_3.1 r_3.2)
theorem fn123_call {xs : List Int32} {d : Nat} (hd : 6 ≤ d) {o0 : Option Nat} {x1 : Int32} {x2 : Int32} {x3 : Int32} {h : xH} {r : (Int32 × xH)} (hf : fn123 o0 x1 x2 x3 h = some r) : xCall (xTa xs) d 123 [xrv o0, .int x1, .int x2, .int x3] h (some (.int r.1), r.2) := by
  obtain ⟨d, rfl⟩ : ∃ d2, d = d2 + 1 := ⟨d - 1, by omega⟩
  replace hd : 5 ≤ d := by omega
  refine call_of2 (fl := [xrv o0, .int x1, .int x2, .int x3]) (Ls := [xrv o0, .int x1, .int x2, .int x3, .float 0, .float 0]) m123 (by simp [xfl, xrv_cat, xc_i, xc_j, xc_a, xc_f]) (Nat.le_of_ble_eq_true rfl) rfl ?_
  unfold fn123 at hf
  refine sh_aload (i' := 0) (n := 1) i123_0 (Or.inr ⟨rfl, by decide⟩) rfl ?_
  refine ev_do i123_1 rfl ?_
  obtain ⟨_, eu_5, hf⟩ := x_bind hf
  obtain ⟨r_1, er_1, hf⟩ := x_bind hf
  refine sh_inv (as := [.int x1]) (z := (some (xrv r_1.1), r_1.2)) i123_2 v123_168 (Or.inl ⟨by decide, rfl⟩) m133 rfl (Nat.le_of_ble_eq_true rfl) eu_5 (fn133_call (by omega) er_1) ?_
  refine sh_astore (i' := 4) (n := 2) i123_5 (Or.inl rfl) (xokst_of (Nat.le_of_ble_eq_true rfl) rfl) ?_
  refine sh_aload (i' := 4) (n := 2) i123_7 (Or.inl rfl) rfl ?_
  refine sh_nnul (t := 16) i123_9 rfl (fun c_2 => ?_) (fun c_2 => ?_)
  · replace hf := x_pos c_2 hf
    refine sh_cnull i123_12 ?_
    refine sh_goto (t := 22) i123_13 rfl ?_
    exact j123_22_ok hd rfl hf
  · replace hf := x_neg c_2 hf
    refine sh_aload (i' := 4) (n := 2) i123_16 (Or.inl rfl) rfl ?_
    refine ev_do i123_18 rfl ?_
    obtain ⟨_, eu_4, hf⟩ := x_bind hf
    obtain ⟨r_3, er_3, hf⟩ := x_bind hf
    refine sh_inv (as := [.int x2]) (z := (some (xrv r_3.1), r_3.2)) i123_19 v123_186 (Or.inl ⟨by decide, rfl⟩) m6 rfl (Nat.le_of_ble_eq_true rfl) eu_4 (fn6_call (by omega) er_3) ?_
    exact j123_22_ok hd rfl hf
end
section
def j124_66  (o0 : Option Nat) (x1 : Int32) (o2 : Option Nat) (x3 : Int32) (h : xH) : Option (Int32 × xH) := (xgR h o0 10 0).bind fun a_1 => (xcv h a_1 9).bind fun _ => (fn101 a_1 0 h).bind fun h_2 => some (x3, h_2)
theorem j124_66_ok {xs : List Int32} {d : Nat} (hd : 5 ≤ d) {o0 : Option Nat} {x1 : Int32} {o2 : Option Nat} {x3 : Int32} {h : xH} {r : (Int32 × xH)} (hf : j124_66 o0 x1 o2 x3 h = some r) : xEv (xTa xs) d 124 (66, [xrv o0, .int x1, xrv o2, .int x3], [], h) (some (.int r.1), r.2) := by
  unfold j124_66 at hf
  refine sh_aload (i' := 0) (n := 1) i124_66 (Or.inr ⟨rfl, by decide⟩) rfl ?_
  obtain ⟨a_1, ea_1, hf⟩ := x_bind hf
  refine sh_getR i124_67 f124_14 ea_1 ?_
  refine ev_do i124_70 rfl ?_
  obtain ⟨_, eu_3, hf⟩ := x_bind hf
  obtain ⟨h_2, eh_2, hf⟩ := x_bind hf
  refine sh_inv (as := [.int 0]) (z := (none, h_2)) i124_71 v124_70 (Or.inl ⟨by decide, rfl⟩) m101 rfl (Nat.le_of_ble_eq_true rfl) eu_3 (fn101_call (by omega) eh_2) ?_
  refine ev_do i124_74 rfl ?_
  obtain rfl := Option.some.inj hf
  exact sh_iret i124_75 m124 rfl rfl
def j124_19  (o0 : Option Nat) (x1 : Int32) (o2 : Option Nat) (s0 : Int32) (h : xH) : Option (Int32 × xH) := (if o2 = none then j124_66 o0 x1 o2 s0 h else (xgR h o0 10 0).bind fun a_2 => (xgR h o0 10 0).bind fun a_3 => (xgI h a_3 9 1).bind fun v_4 => (xcv h a_2 9).bind fun _ => (fn109 a_2 0 v_4 h).bind fun r_5 => (if r_5.1 = 0 then j124_66 o0 x1 o2 s0 r_5.2 else (xgR r_5.2 o0 10 1).bind fun a_7 => (xgR r_5.2 o0 10 0).bind fun a_8 => (xgR r_5.2 o0 10 0).bind fun a_9 => (xgI r_5.2 a_9 9 1).bind fun v_10 => (xcv r_5.2 a_7 8).bind fun _ => (fn93 a_7 a_8 0 v_10 o2 r_5.2).bind fun r_11 => (fn134 r_11.1 r_11.2).bind fun r_12 => j124_66 o0 x1 o2 r_12.1 r_12.2))
theorem j124_19_ok {xs : List Int32} {d : Nat} (hd : 5 ≤ d) {u3 : Value} {o0 : Option Nat} {x1 : Int32} {o2 : Option Nat} {s0 : Int32} {h : xH} {r : (Int32 × xH)} (hu3 : u3.category = 1) (hf : j124_19 o0 x1 o2 s0 h = some r) : xEv (xTa xs) d 124 (19, [xrv o0, .int x1, xrv o2, u3], [.int s0], h) (some (.int r.1), r.2) := by
  unfold j124_19 at hf
  refine sh_istore (i' := 3) (n := 1) i124_19 (Or.inr ⟨rfl, by decide⟩) (xokst_of (Nat.le_of_ble_eq_true rfl) (xrv_cat (o2))) ?_
  refine sh_aload (i' := 2) (n := 1) i124_20 (Or.inr ⟨rfl, by decide⟩) rfl ?_
  refine sh_null (t := 66) i124_21 rfl (fun c_1 => ?_) (fun c_1 => ?_)
  · replace hf := x_pos c_1 hf
    exact j124_66_ok hd hf
  · replace hf := x_neg c_1 hf
    refine sh_aload (i' := 0) (n := 1) i124_24 (Or.inr ⟨rfl, by decide⟩) rfl ?_
    obtain ⟨a_2, ea_2, hf⟩ := x_bind hf
    refine sh_getR i124_25 f124_14 ea_2 ?_
    refine ev_do i124_28 rfl ?_
    refine sh_aload (i' := 0) (n := 1) i124_29 (Or.inr ⟨rfl, by decide⟩) rfl ?_
    obtain ⟨a_3, ea_3, hf⟩ := x_bind hf
    refine sh_getR i124_30 f124_14 ea_3 ?_
    obtain ⟨v_4, ev_4, hf⟩ := x_bind hf
    refine sh_getI i124_33 f124_63 ev_4 ?_
    obtain ⟨_, eu_14, hf⟩ := x_bind hf
    obtain ⟨r_5, er_5, hf⟩ := x_bind hf
    refine sh_inv (as := [.int v_4, .int 0]) (z := (some (.int r_5.1), r_5.2)) i124_36 v124_219 (Or.inl ⟨by decide, rfl⟩) m109 rfl (Nat.le_of_ble_eq_true rfl) eu_14 (fn109_call (by omega) er_5) ?_
    refine ev_if (t := 66) i124_39 rfl (fun c_6 => ?_) (fun c_6 => ?_)
    · replace hf := x_pos (show r_5.1 = 0 from c_6) hf
      exact j124_66_ok hd hf
    · replace hf := x_neg (show ¬ r_5.1 = 0 from c_6) hf
      refine sh_aload (i' := 0) (n := 1) i124_42 (Or.inr ⟨rfl, by decide⟩) rfl ?_
      obtain ⟨a_7, ea_7, hf⟩ := x_bind hf
      refine sh_getR i124_43 f124_21 ea_7 ?_
      refine sh_aload (i' := 0) (n := 1) i124_46 (Or.inr ⟨rfl, by decide⟩) rfl ?_
      obtain ⟨a_8, ea_8, hf⟩ := x_bind hf
      refine sh_getR i124_47 f124_14 ea_8 ?_
      refine ev_do i124_50 rfl ?_
      refine sh_aload (i' := 0) (n := 1) i124_51 (Or.inr ⟨rfl, by decide⟩) rfl ?_
      obtain ⟨a_9, ea_9, hf⟩ := x_bind hf
      refine sh_getR i124_52 f124_14 ea_9 ?_
      obtain ⟨v_10, ev_10, hf⟩ := x_bind hf
      refine sh_getI i124_55 f124_63 ev_10 ?_
      refine sh_aload (i' := 2) (n := 1) i124_58 (Or.inr ⟨rfl, by decide⟩) rfl ?_
      obtain ⟨_, eu_13, hf⟩ := x_bind hf
      obtain ⟨r_11, er_11, hf⟩ := x_bind hf
      refine sh_inv (as := [xrv o2, .int v_10, .int 0, xrv a_8]) (z := (some (xrv r_11.1), r_11.2)) i124_59 v124_215 (Or.inl ⟨by decide, rfl⟩) m93 rfl (Nat.le_of_ble_eq_true rfl) eu_13 (fn93_call (by omega) er_11) ?_
      obtain ⟨r_12, er_12, hf⟩ := x_bind hf
      refine ev_sta (as := [xrv r_11.1]) (z := (some (.int r_12.1), r_12.2)) i124_62 v124_146 (Or.inl rfl) m134 rfl (Nat.le_of_ble_eq_true rfl) (fn134_call (by omega) er_12) ?_
      refine sh_istore (i' := 3) (n := 1) i124_65 (Or.inr ⟨rfl, by decide⟩) (xokst_of (Nat.le_of_ble_eq_true rfl) (xrv_cat (o2))) ?_
      exact j124_66_ok hd hf
def fn124 (o0 : Option Nat) (x1 : Int32) (h : xH) : Option (Int32 × xH) := (xgR h o0 10 1).bind fun a_1 => (xcv h a_1 8).bind fun _ => (fn83 a_1 x1 h).bind fun r_2 => (if r_2.1 = none then j124_19 o0 x1 r_2.1 (-9) r_2.2 else j124_19 o0 x1 r_2.1 (-1) r_2.2)
theorem fn124_call {xs : List Int32} {d : Nat} (hd : 6 ≤ d) {o0 : Option Nat} {x1 : Int32} {h : xH} {r : (Int32 × xH)} (hf : fn124 o0 x1 h = some r) : xCall (xTa xs) d 124 [xrv o0, .int x1] h (some (.int r.1), r.2) := by
  obtain ⟨d, rfl⟩ : ∃ d2, d = d2 + 1 := ⟨d - 1, by omega⟩
  replace hd : 5 ≤ d := by omega
  refine call_of2 (fl := [xrv o0, .int x1]) (Ls := [xrv o0, .int x1, .float 0, .float 0]) m124 (by simp [xfl, xrv_cat, xc_i, xc_j, xc_a, xc_f]) (Nat.le_of_ble_eq_true rfl) rfl ?_
  unfold fn124 at hf
  refine sh_aload (i' := 0) (n := 1) i124_0 (Or.inr ⟨rfl, by decide⟩) rfl ?_
  obtain ⟨a_1, ea_1, hf⟩ := x_bind hf
  refine sh_getR i124_1 f124_21 ea_1 ?_
  refine ev_do i124_4 rfl ?_
  obtain ⟨_, eu_4, hf⟩ := x_bind hf
  obtain ⟨r_2, er_2, hf⟩ := x_bind hf
  refine sh_inv (as := [.int x1]) (z := (some (xrv r_2.1), r_2.2)) i124_5 v124_93 (Or.inl ⟨by decide, rfl⟩) m83 rfl (Nat.le_of_ble_eq_true rfl) eu_4 (fn83_call (by omega) er_2) ?_
  refine sh_astore (i' := 2) (n := 1) i124_8 (Or.inr ⟨rfl, by decide⟩) (xokst_of (Nat.le_of_ble_eq_true rfl) rfl) ?_
  refine sh_aload (i' := 2) (n := 1) i124_9 (Or.inr ⟨rfl, by decide⟩) rfl ?_
  refine sh_nnul (t := 18) i124_10 rfl (fun c_3 => ?_) (fun c_3 => ?_)
  · replace hf := x_pos c_3 hf
    refine ev_do i124_13 rfl ?_
    refine sh_goto (t := 19) i124_15 rfl ?_
    exact j124_19_ok hd rfl hf
  · replace hf := x_neg c_3 hf
    refine ev_do i124_18 rfl ?_
    exact j124_19_ok hd rfl hf
end
section
def j125_36  (o0 : Option Nat) (x1 : Int32) (x2 : Int32) (x3 : Int32) (o4 : Option Nat) (h : xH) : Option (Int32 × xH) := some ((-1), h)
theorem j125_36_ok {xs : List Int32} {d : Nat} (hd : 68 ≤ d) {u5 : Value} {u6 : Value} {o0 : Option Nat} {x1 : Int32} {x2 : Int32} {x3 : Int32} {o4 : Option Nat} {h : xH} {r : (Int32 × xH)} (hu5 : u5.category = 1) (hu6 : u6.category = 1) (hf : j125_36 o0 x1 x2 x3 o4 h = some r) : xEv (xTa xs) d 125 (36, [xrv o0, .int x1, .int x2, .int x3, xrv o4, u5, u6], [], h) (some (.int r.1), r.2) := by
  unfold j125_36 at hf
  refine ev_do i125_36 rfl ?_
  obtain rfl := Option.some.inj hf
  exact sh_iret i125_37 m125 rfl rfl
def fn125 (o0 : Option Nat) (x1 : Int32) (x2 : Int32) (x3 : Int32) (h : xH) : Option (Int32 × xH) := (xgR h o0 10 1).bind fun a_1 => (xcv h a_1 8).bind fun _ => (fn83 a_1 x1 h).bind fun r_2 => (if r_2.1 = none then j125_36 o0 x1 x2 x3 r_2.1 r_2.2 else (if x2 < 12 then j125_36 o0 x1 x2 x3 r_2.1 r_2.2 else (if 60 < x2 then j125_36 o0 x1 x2 x3 r_2.1 r_2.2 else (if x3 < 0 then j125_36 o0 x1 x2 x3 r_2.1 r_2.2 else (if x3 ≤ 1 then (xgR r_2.2 o0 10 1).bind fun a_8 => (xcv r_2.2 a_8 8).bind fun _ => (fn91 a_8 r_2.1 r_2.2).bind fun r_9 => (xgR r_9.2 o0 10 3).bind fun a_10 => (xcv r_9.2 a_10 3).bind fun _ => (fn19 a_10 r_9.2).bind fun h_11 => (xgR h_11 o0 10 3).bind fun a_12 => (xgR h_11 o0 10 1).bind fun a_13 => (xcv h_11 a_12 3).bind fun _ => (fn20 a_12 a_13 r_9.1 0 h_11).bind fun h_14 => (xgR h_14 o0 10 3).bind fun a_15 => (xcv h_14 a_15 3).bind fun _ => (fn21 a_15 r_9.1 h_14).bind fun h_16 => (xgR h_16 o0 10 3).bind fun a_17 => (xgR h_16 o0 10 1).bind fun a_18 => (xcv h_16 a_17 3).bind fun _ => (fn23 a_17 a_18 h_16).bind fun h_19 => (xgR h_19 o0 10 3).bind fun a_20 => (xgR h_19 o0 10 7).bind fun a_21 => (xcv h_19 a_20 3).bind fun _ => (fn24 a_20 a_21 r_2.1 x2 x3 h_19).bind fun h_22 => (xgR h_22 o0 10 7).bind fun a_23 => (xgI h_22 a_23 5 8).bind fun v_24 => (if v_24 = 0 then (xgR h_22 o0 10 7).bind fun a_26 => (xgR h_22 o0 10 6).bind fun a_27 => (xpF h_22 o0 10 7 (.object "DocFormat$Page") (xrv a_27)).bind fun h_28 => (xpF h_28 o0 10 6 (.object "DocFormat$Page") (xrv a_26)).bind fun h_29 => (xgR h_29 o0 10 6).bind fun a_30 => (xgI h_29 a_30 5 3).bind fun v_31 => some (v_31, h_29) else some ((-3), h_22)) else j125_36 o0 x1 x2 x3 r_2.1 r_2.2)))))
theorem fn125_call {xs : List Int32} {d : Nat} (hd : 69 ≤ d) {o0 : Option Nat} {x1 : Int32} {x2 : Int32} {x3 : Int32} {h : xH} {r : (Int32 × xH)} (hf : fn125 o0 x1 x2 x3 h = some r) : xCall (xTa xs) d 125 [xrv o0, .int x1, .int x2, .int x3] h (some (.int r.1), r.2) := by
  obtain ⟨d, rfl⟩ : ∃ d2, d = d2 + 1 := ⟨d - 1, by omega⟩
  replace hd : 68 ≤ d := by omega
  refine call_of2 (fl := [xrv o0, .int x1, .int x2, .int x3]) (Ls := [xrv o0, .int x1, .int x2, .int x3, .float 0, .float 0, .float 0]) m125 (by simp [xfl, xrv_cat, xc_i, xc_j, xc_a, xc_f]) (Nat.le_of_ble_eq_true rfl) rfl ?_
  unfold fn125 at hf
  refine sh_aload (i' := 0) (n := 1) i125_0 (Or.inr ⟨rfl, by decide⟩) rfl ?_
  obtain ⟨a_1, ea_1, hf⟩ := x_bind hf
  refine sh_getR i125_1 f125_21 ea_1 ?_
  refine ev_do i125_4 rfl ?_
  obtain ⟨_, eu_38, hf⟩ := x_bind hf
  obtain ⟨r_2, er_2, hf⟩ := x_bind hf
  refine sh_inv (as := [.int x1]) (z := (some (xrv r_2.1), r_2.2)) i125_5 v125_93 (Or.inl ⟨by decide, rfl⟩) m83 rfl (Nat.le_of_ble_eq_true rfl) eu_38 (fn83_call (by omega) er_2) ?_
  refine sh_astore (i' := 4) (n := 2) i125_8 (Or.inl rfl) (xokst_of (Nat.le_of_ble_eq_true rfl) rfl) ?_
  refine sh_aload (i' := 4) (n := 2) i125_10 (Or.inl rfl) rfl ?_
  refine sh_null (t := 36) i125_12 rfl (fun c_3 => ?_) (fun c_3 => ?_)
  · replace hf := x_pos c_3 hf
    exact j125_36_ok hd rfl rfl hf
  · replace hf := x_neg c_3 hf
    refine ev_do i125_15 rfl ?_
    refine ev_do i125_16 rfl ?_
    refine ev_icmp (t := 36) i125_18 rfl (fun c_4 => ?_) (fun c_4 => ?_)
    · replace hf := x_pos (show x2 < 12 from c_4) hf
      exact j125_36_ok hd rfl rfl hf
    · replace hf := x_neg (show ¬ x2 < 12 from c_4) hf
      refine ev_do i125_21 rfl ?_
      refine ev_do i125_22 rfl ?_
      refine ev_icmp (t := 36) i125_24 rfl (fun c_5 => ?_) (fun c_5 => ?_)
      · replace hf := x_pos (show 60 < x2 from c_5) hf
        exact j125_36_ok hd rfl rfl hf
      · replace hf := x_neg (show ¬ 60 < x2 from c_5) hf
        refine ev_do i125_27 rfl ?_
        refine ev_if (t := 36) i125_28 rfl (fun c_6 => ?_) (fun c_6 => ?_)
        · replace hf := x_pos (show x3 < 0 from c_6) hf
          exact j125_36_ok hd rfl rfl hf
        · replace hf := x_neg (show ¬ x3 < 0 from c_6) hf
          refine ev_do i125_31 rfl ?_
          refine ev_do i125_32 rfl ?_
          refine ev_icmp (t := 38) i125_33 rfl (fun c_7 => ?_) (fun c_7 => ?_)
          · replace hf := x_pos (show x3 ≤ 1 from c_7) hf
            refine sh_aload (i' := 0) (n := 1) i125_38 (Or.inr ⟨rfl, by decide⟩) rfl ?_
            obtain ⟨a_8, ea_8, hf⟩ := x_bind hf
            refine sh_getR i125_39 f125_21 ea_8 ?_
            refine sh_aload (i' := 4) (n := 2) i125_42 (Or.inl rfl) rfl ?_
            obtain ⟨_, eu_37, hf⟩ := x_bind hf
            obtain ⟨r_9, er_9, hf⟩ := x_bind hf
            refine sh_inv (as := [xrv r_2.1]) (z := (some (xrv r_9.1), r_9.2)) i125_44 v125_162 (Or.inl ⟨by decide, rfl⟩) m91 rfl (Nat.le_of_ble_eq_true rfl) eu_37 (fn91_call (by omega) er_9) ?_
            refine sh_astore (i' := 5) (n := 2) i125_47 (Or.inl rfl) (xokst_of (Nat.le_of_ble_eq_true rfl) (xrv_cat (r_2.1))) ?_
            refine sh_aload (i' := 0) (n := 1) i125_49 (Or.inr ⟨rfl, by decide⟩) rfl ?_
            obtain ⟨a_10, ea_10, hf⟩ := x_bind hf
            refine sh_getR i125_50 f125_35 ea_10 ?_
            obtain ⟨_, eu_36, hf⟩ := x_bind hf
            obtain ⟨h_11, eh_11, hf⟩ := x_bind hf
            refine sh_inv (as := []) (z := (none, h_11)) i125_53 v125_222 (Or.inl ⟨by decide, rfl⟩) m19 rfl (Nat.le_of_ble_eq_true rfl) eu_36 (fn19_call (by omega) eh_11) ?_
            refine sh_aload (i' := 0) (n := 1) i125_56 (Or.inr ⟨rfl, by decide⟩) rfl ?_
            obtain ⟨a_12, ea_12, hf⟩ := x_bind hf
            refine sh_getR i125_57 f125_35 ea_12 ?_
            refine sh_aload (i' := 0) (n := 1) i125_60 (Or.inr ⟨rfl, by decide⟩) rfl ?_
            obtain ⟨a_13, ea_13, hf⟩ := x_bind hf
            refine sh_getR i125_61 f125_21 ea_13 ?_
            refine sh_aload (i' := 5) (n := 2) i125_64 (Or.inl rfl) rfl ?_
            refine ev_do i125_66 rfl ?_
            obtain ⟨_, eu_35, hf⟩ := x_bind hf
            obtain ⟨h_14, eh_14, hf⟩ := x_bind hf
            refine sh_inv (as := [.int 0, xrv r_9.1, xrv a_13]) (z := (none, h_14)) i125_67 v125_225 (Or.inl ⟨by decide, rfl⟩) m20 rfl (Nat.le_of_ble_eq_true rfl) eu_35 (fn20_call (by omega) eh_14) ?_
            refine sh_aload (i' := 0) (n := 1) i125_70 (Or.inr ⟨rfl, by decide⟩) rfl ?_
            obtain ⟨a_15, ea_15, hf⟩ := x_bind hf
            refine sh_getR i125_71 f125_35 ea_15 ?_
            refine sh_aload (i' := 5) (n := 2) i125_74 (Or.inl rfl) rfl ?_
            obtain ⟨_, eu_34, hf⟩ := x_bind hf
            obtain ⟨h_16, eh_16, hf⟩ := x_bind hf
            refine sh_inv (as := [xrv r_9.1]) (z := (none, h_16)) i125_76 v125_229 (Or.inl ⟨by decide, rfl⟩) m21 rfl (Nat.le_of_ble_eq_true rfl) eu_34 (fn21_call (by omega) eh_16) ?_
            refine sh_aload (i' := 0) (n := 1) i125_79 (Or.inr ⟨rfl, by decide⟩) rfl ?_
            obtain ⟨a_17, ea_17, hf⟩ := x_bind hf
            refine sh_getR i125_80 f125_35 ea_17 ?_
            refine sh_aload (i' := 0) (n := 1) i125_83 (Or.inr ⟨rfl, by decide⟩) rfl ?_
            obtain ⟨a_18, ea_18, hf⟩ := x_bind hf
            refine sh_getR i125_84 f125_21 ea_18 ?_
            obtain ⟨_, eu_33, hf⟩ := x_bind hf
            obtain ⟨h_19, eh_19, hf⟩ := x_bind hf
            refine sh_inv (as := [xrv a_18]) (z := (none, h_19)) i125_87 v125_233 (Or.inl ⟨by decide, rfl⟩) m23 rfl (Nat.le_of_ble_eq_true rfl) eu_33 (fn23_call (by omega) eh_19) ?_
            refine sh_aload (i' := 0) (n := 1) i125_90 (Or.inr ⟨rfl, by decide⟩) rfl ?_
            obtain ⟨a_20, ea_20, hf⟩ := x_bind hf
            refine sh_getR i125_91 f125_35 ea_20 ?_
            refine sh_aload (i' := 0) (n := 1) i125_94 (Or.inr ⟨rfl, by decide⟩) rfl ?_
            obtain ⟨a_21, ea_21, hf⟩ := x_bind hf
            refine sh_getR i125_95 f125_60 ea_21 ?_
            refine sh_aload (i' := 4) (n := 2) i125_98 (Or.inl rfl) rfl ?_
            refine ev_do i125_100 rfl ?_
            refine ev_do i125_101 rfl ?_
            obtain ⟨_, eu_32, hf⟩ := x_bind hf
            obtain ⟨h_22, eh_22, hf⟩ := x_bind hf
            refine sh_inv (as := [.int x3, .int x2, xrv r_2.1, xrv a_21]) (z := (none, h_22)) i125_102 v125_237 (Or.inl ⟨by decide, rfl⟩) m24 rfl (Nat.le_of_ble_eq_true rfl) eu_32 (fn24_call (by omega) eh_22) ?_
            refine sh_aload (i' := 0) (n := 1) i125_105 (Or.inr ⟨rfl, by decide⟩) rfl ?_
            obtain ⟨a_23, ea_23, hf⟩ := x_bind hf
            refine sh_getR i125_106 f125_60 ea_23 ?_
            obtain ⟨v_24, ev_24, hf⟩ := x_bind hf
            refine sh_getI i125_109 f125_241 ev_24 ?_
            refine ev_if (t := 118) i125_112 rfl (fun c_25 => ?_) (fun c_25 => ?_)
            · replace hf := x_pos (show v_24 = 0 from c_25) hf
              refine sh_aload (i' := 0) (n := 1) i125_118 (Or.inr ⟨rfl, by decide⟩) rfl ?_
              obtain ⟨a_26, ea_26, hf⟩ := x_bind hf
              refine sh_getR i125_119 f125_60 ea_26 ?_
              refine sh_astore (i' := 6) (n := 2) i125_122 (Or.inl rfl) (xokst_of (Nat.le_of_ble_eq_true rfl) (xrv_cat (r_9.1))) ?_
              refine sh_aload (i' := 0) (n := 1) i125_124 (Or.inr ⟨rfl, by decide⟩) rfl ?_
              refine sh_aload (i' := 0) (n := 1) i125_125 (Or.inr ⟨rfl, by decide⟩) rfl ?_
              obtain ⟨a_27, ea_27, hf⟩ := x_bind hf
              refine sh_getR i125_126 f125_56 ea_27 ?_
              obtain ⟨h_28, eh_28, hf⟩ := x_bind hf
              refine sh_put i125_129 f125_60 (by decide) rfl eh_28 ?_
              refine sh_aload (i' := 0) (n := 1) i125_132 (Or.inr ⟨rfl, by decide⟩) rfl ?_
              refine sh_aload (i' := 6) (n := 2) i125_133 (Or.inl rfl) rfl ?_
              obtain ⟨h_29, eh_29, hf⟩ := x_bind hf
              refine sh_put i125_135 f125_56 (by decide) rfl eh_29 ?_
              refine sh_aload (i' := 0) (n := 1) i125_138 (Or.inr ⟨rfl, by decide⟩) rfl ?_
              obtain ⟨a_30, ea_30, hf⟩ := x_bind hf
              refine sh_getR i125_139 f125_56 ea_30 ?_
              obtain ⟨v_31, ev_31, hf⟩ := x_bind hf
              refine sh_getI i125_142 f125_244 ev_31 ?_
              obtain rfl := Option.some.inj hf
              exact sh_iret i125_145 m125 rfl rfl
            · replace hf := x_neg (show ¬ v_24 = 0 from c_25) hf
              refine ev_do i125_115 rfl ?_
              obtain rfl := Option.some.inj hf
              exact sh_iret i125_117 m125 rfl rfl
          · replace hf := x_neg (show ¬ x3 ≤ 1 from c_7) hf
            exact j125_36_ok hd rfl rfl hf
end
section
def fn126 (o0 : Option Nat) (x1 : Int32) (h : xH) : Option (Int32 × xH) := (if x1 = 0 then (xgR h o0 10 6).bind fun a_2 => (xgI h a_2 5 3).bind fun v_3 => some (v_3, h) else (if x1 = 1 then (xgR h o0 10 6).bind fun a_5 => (xgR h a_5 5 0).bind fun a_6 => (xgI h a_6 9 1).bind fun v_7 => some (v_7, h) else (if x1 = 2 then (xgR h o0 10 6).bind fun a_9 => (xgI h a_9 5 4).bind fun v_10 => some (v_10, h) else (if x1 = 3 then (xgR h o0 10 6).bind fun a_12 => (xgI h a_12 5 5).bind fun v_13 => some (v_13, h) else (if x1 = 4 then (xgR h o0 10 6).bind fun a_15 => (xgI h a_15 5 6).bind fun v_16 => some (v_16, h) else some ((-1), h))))))
theorem fn126_call {xs : List Int32} {d : Nat} (hd : 2 ≤ d) {o0 : Option Nat} {x1 : Int32} {h : xH} {r : (Int32 × xH)} (hf : fn126 o0 x1 h = some r) : xCall (xTa xs) d 126 [xrv o0, .int x1] h (some (.int r.1), r.2) := by
  obtain ⟨d, rfl⟩ : ∃ d2, d = d2 + 1 := ⟨d - 1, by omega⟩
  replace hd : 1 ≤ d := by omega
  refine call_of2 (fl := [xrv o0, .int x1]) (Ls := [xrv o0, .int x1]) m126 (by simp [xfl, xrv_cat, xc_i, xc_j, xc_a, xc_f]) (Nat.le_of_ble_eq_true rfl) rfl ?_
  unfold fn126 at hf
  refine ev_do i126_0 rfl ?_
  by_cases c_1 : x1 = 0
  · replace hf := x_pos c_1 hf
    refine sh_tswC (c := 0) (t := 36) i126_1 (show (x1).toInt = 0 by rw [c_1]; rfl) (by decide) (by decide) rfl rfl ?_
    refine sh_aload (i' := 0) (n := 1) i126_36 (Or.inr ⟨rfl, by decide⟩) rfl ?_
    obtain ⟨a_2, ea_2, hf⟩ := x_bind hf
    refine sh_getR i126_37 f126_56 ea_2 ?_
    obtain ⟨v_3, ev_3, hf⟩ := x_bind hf
    refine sh_getI i126_40 f126_244 ev_3 ?_
    obtain rfl := Option.some.inj hf
    exact sh_iret i126_43 m126 rfl rfl
  · replace hf := x_neg c_1 hf
    by_cases c_4 : x1 = 1
    · replace hf := x_pos c_4 hf
      refine sh_tswC (c := 1) (t := 44) i126_1 (show (x1).toInt = 1 by rw [c_4]; rfl) (by decide) (by decide) rfl rfl ?_
      refine sh_aload (i' := 0) (n := 1) i126_44 (Or.inr ⟨rfl, by decide⟩) rfl ?_
      obtain ⟨a_5, ea_5, hf⟩ := x_bind hf
      refine sh_getR i126_45 f126_56 ea_5 ?_
      obtain ⟨a_6, ea_6, hf⟩ := x_bind hf
      refine sh_getR i126_48 f126_247 ea_6 ?_
      obtain ⟨v_7, ev_7, hf⟩ := x_bind hf
      refine sh_getI i126_51 f126_63 ev_7 ?_
      obtain rfl := Option.some.inj hf
      exact sh_iret i126_54 m126 rfl rfl
    · replace hf := x_neg c_4 hf
      by_cases c_8 : x1 = 2
      · replace hf := x_pos c_8 hf
        refine sh_tswC (c := 2) (t := 55) i126_1 (show (x1).toInt = 2 by rw [c_8]; rfl) (by decide) (by decide) rfl rfl ?_
        refine sh_aload (i' := 0) (n := 1) i126_55 (Or.inr ⟨rfl, by decide⟩) rfl ?_
        obtain ⟨a_9, ea_9, hf⟩ := x_bind hf
        refine sh_getR i126_56 f126_56 ea_9 ?_
        obtain ⟨v_10, ev_10, hf⟩ := x_bind hf
        refine sh_getI i126_59 f126_248 ev_10 ?_
        obtain rfl := Option.some.inj hf
        exact sh_iret i126_62 m126 rfl rfl
      · replace hf := x_neg c_8 hf
        by_cases c_11 : x1 = 3
        · replace hf := x_pos c_11 hf
          refine sh_tswC (c := 3) (t := 63) i126_1 (show (x1).toInt = 3 by rw [c_11]; rfl) (by decide) (by decide) rfl rfl ?_
          refine sh_aload (i' := 0) (n := 1) i126_63 (Or.inr ⟨rfl, by decide⟩) rfl ?_
          obtain ⟨a_12, ea_12, hf⟩ := x_bind hf
          refine sh_getR i126_64 f126_56 ea_12 ?_
          obtain ⟨v_13, ev_13, hf⟩ := x_bind hf
          refine sh_getI i126_67 f126_251 ev_13 ?_
          obtain rfl := Option.some.inj hf
          exact sh_iret i126_70 m126 rfl rfl
        · replace hf := x_neg c_11 hf
          by_cases c_14 : x1 = 4
          · replace hf := x_pos c_14 hf
            refine sh_tswC (c := 4) (t := 71) i126_1 (show (x1).toInt = 4 by rw [c_14]; rfl) (by decide) (by decide) rfl rfl ?_
            refine sh_aload (i' := 0) (n := 1) i126_71 (Or.inr ⟨rfl, by decide⟩) rfl ?_
            obtain ⟨a_15, ea_15, hf⟩ := x_bind hf
            refine sh_getR i126_72 f126_56 ea_15 ?_
            obtain ⟨v_16, ev_16, hf⟩ := x_bind hf
            refine sh_getI i126_75 f126_254 ev_16 ?_
            obtain rfl := Option.some.inj hf
            exact sh_iret i126_78 m126 rfl rfl
          · replace hf := x_neg c_14 hf
            have nc_1 : (x1).toInt ≠ 0 := fun h9 => c_1 (Int32.toInt_inj.mp h9)
            have nc_4 : (x1).toInt ≠ 1 := fun h9 => c_4 (Int32.toInt_inj.mp h9)
            have nc_8 : (x1).toInt ≠ 2 := fun h9 => c_8 (Int32.toInt_inj.mp h9)
            have nc_11 : (x1).toInt ≠ 3 := fun h9 => c_11 (Int32.toInt_inj.mp h9)
            have nc_14 : (x1).toInt ≠ 4 := fun h9 => c_14 (Int32.toInt_inj.mp h9)
            refine sh_tswD (t := 79) i126_1 (show (x1).toInt < 0 ∨ 4 < (x1).toInt by omega) rfl ?_
            refine ev_do i126_79 rfl ?_
            obtain rfl := Option.some.inj hf
            exact sh_iret i126_80 m126 rfl rfl
end
