section
def fn112 (o0 : Option Nat) (x1 : Int32) (x2 : Int32) (x3 : Int32) (x4 : Int32) (x5 : Int32) (h : xH) : Option (Int32 × xH) := (xgR h o0 10 0).bind fun a_1 => (xgI h a_1 9 1).bind fun v_2 => (if (v_2 + 20) ≤ 600 then (xgR h o0 10 0).bind fun a_4 => (xcv h a_4 9).bind fun _ => (fn98 a_4 x1 h).bind fun h_5 => (xgR h_5 o0 10 0).bind fun a_6 => (xcv h_5 a_6 9).bind fun _ => (fn98 a_6 x2 h_5).bind fun h_7 => (xgR h_7 o0 10 0).bind fun a_8 => (xcv h_7 a_8 9).bind fun _ => (fn98 a_8 x3 h_7).bind fun h_9 => (xgR h_9 o0 10 0).bind fun a_10 => (xcv h_9 a_10 9).bind fun _ => (fn98 a_10 x4 h_9).bind fun h_11 => (xgR h_11 o0 10 0).bind fun a_12 => (xcv h_11 a_12 9).bind fun _ => (fn98 a_12 x5 h_11).bind fun h_13 => (xgR h_13 o0 10 0).bind fun a_14 => (xgI h_13 a_14 9 1).bind fun v_15 => some (v_15, h_13) else some ((-3), h))
theorem fn112_call {xs : List Int32} {d : Nat} (hd : 4 ≤ d) {o0 : Option Nat} {x1 : Int32} {x2 : Int32} {x3 : Int32} {x4 : Int32} {x5 : Int32} {h : xH} {r : (Int32 × xH)} (hf : fn112 o0 x1 x2 x3 x4 x5 h = some r) : xCall (xTa xs) d 112 [xrv o0, .int x1, .int x2, .int x3, .int x4, .int x5] h (some (.int r.1), r.2) := by
  obtain ⟨d, rfl⟩ : ∃ d2, d = d2 + 1 := ⟨d - 1, by omega⟩
  replace hd : 3 ≤ d := by omega
  refine call_of2 (fl := [xrv o0, .int x1, .int x2, .int x3, .int x4, .int x5]) (Ls := [xrv o0, .int x1, .int x2, .int x3, .int x4, .int x5]) m112 (by simp [xfl, xrv_cat, xc_i, xc_j, xc_a, xc_f]) (Nat.le_of_ble_eq_true rfl) rfl ?_
  unfold fn112 at hf
  refine sh_aload (i' := 0) (n := 1) i112_0 (Or.inr ⟨rfl, by decide⟩) rfl ?_
  obtain ⟨a_1, ea_1, hf⟩ := x_bind hf
  refine sh_getR i112_1 f112_14 ea_1 ?_
  obtain ⟨v_2, ev_2, hf⟩ := x_bind hf
  refine sh_getI i112_4 f112_63 ev_2 ?_
  refine ev_do i112_7 rfl ?_
  refine ev_do i112_9 rfl ?_
  refine ev_do i112_10 rfl ?_
  refine ev_icmp (t := 19) i112_13 rfl (fun c_3 => ?_) (fun c_3 => ?_)
  · replace hf := x_pos (show (v_2 + 20) ≤ 600 from c_3) hf
    refine sh_aload (i' := 0) (n := 1) i112_19 (Or.inr ⟨rfl, by decide⟩) rfl ?_
    obtain ⟨a_4, ea_4, hf⟩ := x_bind hf
    refine sh_getR i112_20 f112_14 ea_4 ?_
    refine ev_do i112_23 rfl ?_
    obtain ⟨_, eu_20, hf⟩ := x_bind hf
    obtain ⟨h_5, eh_5, hf⟩ := x_bind hf
    refine sh_inv (as := [.int x1]) (z := (none, h_5)) i112_24 v112_67 (Or.inl ⟨by decide, rfl⟩) m98 rfl (Nat.le_of_ble_eq_true rfl) eu_20 (fn98_call (by omega) eh_5) ?_
    refine sh_aload (i' := 0) (n := 1) i112_27 (Or.inr ⟨rfl, by decide⟩) rfl ?_
    obtain ⟨a_6, ea_6, hf⟩ := x_bind hf
    refine sh_getR i112_28 f112_14 ea_6 ?_
    refine ev_do i112_31 rfl ?_
    obtain ⟨_, eu_19, hf⟩ := x_bind hf
    obtain ⟨h_7, eh_7, hf⟩ := x_bind hf
    refine sh_inv (as := [.int x2]) (z := (none, h_7)) i112_32 v112_67 (Or.inl ⟨by decide, rfl⟩) m98 rfl (Nat.le_of_ble_eq_true rfl) eu_19 (fn98_call (by omega) eh_7) ?_
    refine sh_aload (i' := 0) (n := 1) i112_35 (Or.inr ⟨rfl, by decide⟩) rfl ?_
    obtain ⟨a_8, ea_8, hf⟩ := x_bind hf
    refine sh_getR i112_36 f112_14 ea_8 ?_
    refine ev_do i112_39 rfl ?_
    obtain ⟨_, eu_18, hf⟩ := x_bind hf
    obtain ⟨h_9, eh_9, hf⟩ := x_bind hf
    refine sh_inv (as := [.int x3]) (z := (none, h_9)) i112_40 v112_67 (Or.inl ⟨by decide, rfl⟩) m98 rfl (Nat.le_of_ble_eq_true rfl) eu_18 (fn98_call (by omega) eh_9) ?_
    refine sh_aload (i' := 0) (n := 1) i112_43 (Or.inr ⟨rfl, by decide⟩) rfl ?_
    obtain ⟨a_10, ea_10, hf⟩ := x_bind hf
    refine sh_getR i112_44 f112_14 ea_10 ?_
    refine ev_do i112_47 rfl ?_
    obtain ⟨_, eu_17, hf⟩ := x_bind hf
    obtain ⟨h_11, eh_11, hf⟩ := x_bind hf
    refine sh_inv (as := [.int x4]) (z := (none, h_11)) i112_49 v112_67 (Or.inl ⟨by decide, rfl⟩) m98 rfl (Nat.le_of_ble_eq_true rfl) eu_17 (fn98_call (by omega) eh_11) ?_
    refine sh_aload (i' := 0) (n := 1) i112_52 (Or.inr ⟨rfl, by decide⟩) rfl ?_
    obtain ⟨a_12, ea_12, hf⟩ := x_bind hf
    refine sh_getR i112_53 f112_14 ea_12 ?_
    refine ev_do i112_56 rfl ?_
    obtain ⟨_, eu_16, hf⟩ := x_bind hf
    obtain ⟨h_13, eh_13, hf⟩ := x_bind hf
    refine sh_inv (as := [.int x5]) (z := (none, h_13)) i112_58 v112_67 (Or.inl ⟨by decide, rfl⟩) m98 rfl (Nat.le_of_ble_eq_true rfl) eu_16 (fn98_call (by omega) eh_13) ?_
    refine sh_aload (i' := 0) (n := 1) i112_61 (Or.inr ⟨rfl, by decide⟩) rfl ?_
    obtain ⟨a_14, ea_14, hf⟩ := x_bind hf
    refine sh_getR i112_62 f112_14 ea_14 ?_
    obtain ⟨v_15, ev_15, hf⟩ := x_bind hf
    refine sh_getI i112_65 f112_63 ev_15 ?_
    obtain rfl := Option.some.inj hf
    exact sh_iret i112_68 m112 rfl rfl
  · replace hf := x_neg (show ¬ (v_2 + 20) ≤ 600 from c_3) hf
    refine ev_do i112_16 rfl ?_
    obtain rfl := Option.some.inj hf
    exact sh_iret i112_18 m112 rfl rfl
end
section
def j113_17  (o0 : Option Nat) (x1 : Int32) (x2 : Int32) (h : xH) : Option (Int32 × xH) := some ((-1), h)
theorem j113_17_ok {xs : List Int32} {d : Nat} (hd : 2 ≤ d) {o0 : Option Nat} {x1 : Int32} {x2 : Int32} {h : xH} {r : (Int32 × xH)} (hf : j113_17 o0 x1 x2 h = some r) : xEv (xTa xs) d 113 (17, [xrv o0, .int x1, .int x2], [], h) (some (.int r.1), r.2) := by
  unfold j113_17 at hf
  refine ev_do i113_17 rfl ?_
  obtain rfl := Option.some.inj hf
  exact sh_iret i113_18 m113 rfl rfl
def fn113 (o0 : Option Nat) (x1 : Int32) (h : xH) : Option (Int32 × xH) := (xgR h o0 10 0).bind fun a_1 => (xgI h a_1 9 1).bind fun v_2 => (if x1 < 0 then j113_17 o0 x1 v_2 h else (if x1 ≤ v_2 then (xgR h o0 10 0).bind fun a_5 => (xcv h a_5 9).bind fun _ => (fn101 a_5 x1 h).bind fun h_6 => some (v_2, h_6) else j113_17 o0 x1 v_2 h))
theorem fn113_call {xs : List Int32} {d : Nat} (hd : 3 ≤ d) {o0 : Option Nat} {x1 : Int32} {h : xH} {r : (Int32 × xH)} (hf : fn113 o0 x1 h = some r) : xCall (xTa xs) d 113 [xrv o0, .int x1] h (some (.int r.1), r.2) := by
  obtain ⟨d, rfl⟩ : ∃ d2, d = d2 + 1 := ⟨d - 1, by omega⟩
  replace hd : 2 ≤ d := by omega
  refine call_of2 (fl := [xrv o0, .int x1]) (Ls := [xrv o0, .int x1, .float 0]) m113 (by simp [xfl, xrv_cat, xc_i, xc_j, xc_a, xc_f]) (Nat.le_of_ble_eq_true rfl) rfl ?_
  unfold fn113 at hf
  refine sh_aload (i' := 0) (n := 1) i113_0 (Or.inr ⟨rfl, by decide⟩) rfl ?_
  obtain ⟨a_1, ea_1, hf⟩ := x_bind hf
  refine sh_getR i113_1 f113_14 ea_1 ?_
  obtain ⟨v_2, ev_2, hf⟩ := x_bind hf
  refine sh_getI i113_4 f113_63 ev_2 ?_
  refine sh_istore (i' := 2) (n := 1) i113_7 (Or.inr ⟨rfl, by decide⟩) (xokst_of (Nat.le_of_ble_eq_true rfl) rfl) ?_
  refine ev_do i113_8 rfl ?_
  refine ev_if (t := 17) i113_9 rfl (fun c_3 => ?_) (fun c_3 => ?_)
  · replace hf := x_pos (show x1 < 0 from c_3) hf
    exact j113_17_ok hd hf
  · replace hf := x_neg (show ¬ x1 < 0 from c_3) hf
    refine ev_do i113_12 rfl ?_
    refine ev_do i113_13 rfl ?_
    refine ev_icmp (t := 19) i113_14 rfl (fun c_4 => ?_) (fun c_4 => ?_)
    · replace hf := x_pos (show x1 ≤ v_2 from c_4) hf
      refine sh_aload (i' := 0) (n := 1) i113_19 (Or.inr ⟨rfl, by decide⟩) rfl ?_
      obtain ⟨a_5, ea_5, hf⟩ := x_bind hf
      refine sh_getR i113_20 f113_14 ea_5 ?_
      refine ev_do i113_23 rfl ?_
      obtain ⟨_, eu_7, hf⟩ := x_bind hf
      obtain ⟨h_6, eh_6, hf⟩ := x_bind hf
      refine sh_inv (as := [.int x1]) (z := (none, h_6)) i113_24 v113_70 (Or.inl ⟨by decide, rfl⟩) m101 rfl (Nat.le_of_ble_eq_true rfl) eu_7 (fn101_call (by omega) eh_6) ?_
      refine ev_do i113_27 rfl ?_
      obtain rfl := Option.some.inj hf
      exact sh_iret i113_28 m113 rfl rfl
    · replace hf := x_neg (show ¬ x1 ≤ v_2 from c_4) hf
      exact j113_17_ok hd hf
end
section
def j114_71  (o0 : Option Nat) (x1 : Int32) (o2 : Option Nat) (x3 : Int32) (h : xH) : Option (Int32 × xH) := (xgR h o0 10 0).bind fun a_1 => (xcv h a_1 9).bind fun _ => (fn101 a_1 0 h).bind fun h_2 => some (x3, h_2)
theorem j114_71_ok {xs : List Int32} {d : Nat} (hd : 5 ≤ d) {o0 : Option Nat} {x1 : Int32} {o2 : Option Nat} {x3 : Int32} {h : xH} {r : (Int32 × xH)} (hf : j114_71 o0 x1 o2 x3 h = some r) : xEv (xTa xs) d 114 (71, [xrv o0, .int x1, xrv o2, .int x3], [], h) (some (.int r.1), r.2) := by
  unfold j114_71 at hf
  refine sh_aload (i' := 0) (n := 1) i114_71 (Or.inr ⟨rfl, by decide⟩) rfl ?_
  obtain ⟨a_1, ea_1, hf⟩ := x_bind hf
  refine sh_getR i114_72 f114_14 ea_1 ?_
  refine ev_do i114_75 rfl ?_
  obtain ⟨_, eu_3, hf⟩ := x_bind hf
  obtain ⟨h_2, eh_2, hf⟩ := x_bind hf
  refine sh_inv (as := [.int 0]) (z := (none, h_2)) i114_76 v114_70 (Or.inl ⟨by decide, rfl⟩) m101 rfl (Nat.le_of_ble_eq_true rfl) eu_3 (fn101_call (by omega) eh_2) ?_
  refine ev_do i114_79 rfl ?_
  obtain rfl := Option.some.inj hf
  exact sh_iret i114_80 m114 rfl rfl
def j114_20  (o0 : Option Nat) (x1 : Int32) (o2 : Option Nat) (x3 : Int32) (h : xH) : Option (Int32 × xH) := (xgR h o0 10 0).bind fun a_1 => (xcv h a_1 9).bind fun _ => (fn108 a_1 65 90 h).bind fun r_2 => (if r_2.1 = 0 then j114_71 o0 x1 o2 x3 r_2.2 else (xgR r_2.2 o0 10 1).bind fun a_4 => (xgR r_2.2 o0 10 0).bind fun a_5 => (xgR r_2.2 o0 10 0).bind fun a_6 => (xgI r_2.2 a_6 9 1).bind fun v_7 => (xcv r_2.2 a_4 8).bind fun _ => (fn87 a_4 a_5 0 v_7 r_2.2).bind fun r_8 => (if r_8.1 = none then (xgR r_8.2 o0 10 1).bind fun a_10 => (xgR r_8.2 o0 10 0).bind fun a_11 => (xcv r_8.2 a_10 8).bind fun _ => (fn82 a_10 none o2 0 a_11 r_8.2).bind fun r_12 => j114_71 o0 x1 o2 r_12.1 r_12.2 else j114_71 o0 x1 o2 x3 r_8.2))
theorem j114_20_ok {xs : List Int32} {d : Nat} (hd : 5 ≤ d) {o0 : Option Nat} {x1 : Int32} {o2 : Option Nat} {x3 : Int32} {h : xH} {r : (Int32 × xH)} (hf : j114_20 o0 x1 o2 x3 h = some r) : xEv (xTa xs) d 114 (20, [xrv o0, .int x1, xrv o2, .int x3], [], h) (some (.int r.1), r.2) := by
  unfold j114_20 at hf
  refine sh_aload (i' := 0) (n := 1) i114_20 (Or.inr ⟨rfl, by decide⟩) rfl ?_
  obtain ⟨a_1, ea_1, hf⟩ := x_bind hf
  refine sh_getR i114_21 f114_14 ea_1 ?_
  refine ev_do i114_24 rfl ?_
  refine ev_do i114_26 rfl ?_
  obtain ⟨_, eu_15, hf⟩ := x_bind hf
  obtain ⟨r_2, er_2, hf⟩ := x_bind hf
  refine sh_inv (as := [.int 90, .int 65]) (z := (some (.int r_2.1), r_2.2)) i114_28 v114_77 (Or.inl ⟨by decide, rfl⟩) m108 rfl (Nat.le_of_ble_eq_true rfl) eu_15 (fn108_call (by omega) er_2) ?_
  refine ev_if (t := 71) i114_31 rfl (fun c_3 => ?_) (fun c_3 => ?_)
  · replace hf := x_pos (show r_2.1 = 0 from c_3) hf
    exact j114_71_ok hd hf
  · replace hf := x_neg (show ¬ r_2.1 = 0 from c_3) hf
    refine sh_aload (i' := 0) (n := 1) i114_34 (Or.inr ⟨rfl, by decide⟩) rfl ?_
    obtain ⟨a_4, ea_4, hf⟩ := x_bind hf
    refine sh_getR i114_35 f114_21 ea_4 ?_
    refine sh_aload (i' := 0) (n := 1) i114_38 (Or.inr ⟨rfl, by decide⟩) rfl ?_
    obtain ⟨a_5, ea_5, hf⟩ := x_bind hf
    refine sh_getR i114_39 f114_14 ea_5 ?_
    refine ev_do i114_42 rfl ?_
    refine sh_aload (i' := 0) (n := 1) i114_43 (Or.inr ⟨rfl, by decide⟩) rfl ?_
    obtain ⟨a_6, ea_6, hf⟩ := x_bind hf
    refine sh_getR i114_44 f114_14 ea_6 ?_
    obtain ⟨v_7, ev_7, hf⟩ := x_bind hf
    refine sh_getI i114_47 f114_63 ev_7 ?_
    obtain ⟨_, eu_14, hf⟩ := x_bind hf
    obtain ⟨r_8, er_8, hf⟩ := x_bind hf
    refine sh_inv (as := [.int v_7, .int 0, xrv a_5]) (z := (some (xrv r_8.1), r_8.2)) i114_50 v114_81 (Or.inl ⟨by decide, rfl⟩) m87 rfl (Nat.le_of_ble_eq_true rfl) eu_14 (fn87_call (by omega) er_8) ?_
    refine sh_nnul (t := 71) i114_53 rfl (fun c_9 => ?_) (fun c_9 => ?_)
    · replace hf := x_pos c_9 hf
      refine sh_aload (i' := 0) (n := 1) i114_56 (Or.inr ⟨rfl, by decide⟩) rfl ?_
      obtain ⟨a_10, ea_10, hf⟩ := x_bind hf
      refine sh_getR i114_57 f114_21 ea_10 ?_
      refine sh_cnull i114_60 ?_
      refine sh_aload (i' := 2) (n := 1) i114_61 (Or.inr ⟨rfl, by decide⟩) rfl ?_
      refine ev_do i114_62 rfl ?_
      refine sh_aload (i' := 0) (n := 1) i114_63 (Or.inr ⟨rfl, by decide⟩) rfl ?_
      obtain ⟨a_11, ea_11, hf⟩ := x_bind hf
      refine sh_getR i114_64 f114_14 ea_11 ?_
      obtain ⟨_, eu_13, hf⟩ := x_bind hf
      obtain ⟨r_12, er_12, hf⟩ := x_bind hf
      refine sh_inv (as := [xrv a_11, .int 0, xrv o2, xrv none]) (z := (some (.int r_12.1), r_12.2)) i114_67 v114_85 (Or.inl ⟨by decide, rfl⟩) m82 rfl (Nat.le_of_ble_eq_true rfl) eu_13 (fn82_call (by omega) er_12) ?_
      refine sh_istore (i' := 3) (n := 1) i114_70 (Or.inr ⟨rfl, by decide⟩) (xokst_of (Nat.le_of_ble_eq_true rfl) (xrv_cat (o2))) ?_
      exact j114_71_ok hd hf
    · replace hf := x_neg c_9 hf
      exact j114_71_ok hd hf
def fn114 (o0 : Option Nat) (x1 : Int32) (h : xH) : Option (Int32 × xH) := (xgR h o0 10 1).bind fun a_1 => (xcv h a_1 8).bind fun _ => (fn84 a_1 x1 h).bind fun r_2 => (if r_2.1 = none then (if x1 = (-1) then j114_20 o0 x1 r_2.1 (-1) r_2.2 else j114_71 o0 x1 r_2.1 (-1) r_2.2) else j114_20 o0 x1 r_2.1 (-1) r_2.2)
theorem fn114_call {xs : List Int32} {d : Nat} (hd : 6 ≤ d) {o0 : Option Nat} {x1 : Int32} {h : xH} {r : (Int32 × xH)} (hf : fn114 o0 x1 h = some r) : xCall (xTa xs) d 114 [xrv o0, .int x1] h (some (.int r.1), r.2) := by
  obtain ⟨d, rfl⟩ : ∃ d2, d = d2 + 1 := ⟨d - 1, by omega⟩
  replace hd : 5 ≤ d := by omega
  refine call_of2 (fl := [xrv o0, .int x1]) (Ls := [xrv o0, .int x1, .float 0, .float 0]) m114 (by simp [xfl, xrv_cat, xc_i, xc_j, xc_a, xc_f]) (Nat.le_of_ble_eq_true rfl) rfl ?_
  unfold fn114 at hf
  refine sh_aload (i' := 0) (n := 1) i114_0 (Or.inr ⟨rfl, by decide⟩) rfl ?_
  obtain ⟨a_1, ea_1, hf⟩ := x_bind hf
  refine sh_getR i114_1 f114_21 ea_1 ?_
  refine ev_do i114_4 rfl ?_
  obtain ⟨_, eu_5, hf⟩ := x_bind hf
  obtain ⟨r_2, er_2, hf⟩ := x_bind hf
  refine sh_inv (as := [.int x1]) (z := (some (xrv r_2.1), r_2.2)) i114_5 v114_73 (Or.inl ⟨by decide, rfl⟩) m84 rfl (Nat.le_of_ble_eq_true rfl) eu_5 (fn84_call (by omega) er_2) ?_
  refine sh_astore (i' := 2) (n := 1) i114_8 (Or.inr ⟨rfl, by decide⟩) (xokst_of (Nat.le_of_ble_eq_true rfl) rfl) ?_
  refine ev_do i114_9 rfl ?_
  refine sh_istore (i' := 3) (n := 1) i114_10 (Or.inr ⟨rfl, by decide⟩) (xokst_of (Nat.le_of_ble_eq_true rfl) (xrv_cat (r_2.1))) ?_
  refine sh_aload (i' := 2) (n := 1) i114_11 (Or.inr ⟨rfl, by decide⟩) rfl ?_
  refine sh_nnul (t := 20) i114_12 rfl (fun c_3 => ?_) (fun c_3 => ?_)
  · replace hf := x_pos c_3 hf
    refine ev_do i114_15 rfl ?_
    refine ev_do i114_16 rfl ?_
    refine ev_icmp (t := 71) i114_17 rfl (fun c_4 => ?_) (fun c_4 => ?_)
    · replace hf := x_neg (show ¬ x1 = (-1) from c_4) hf
      exact j114_71_ok hd hf
    · replace hf := x_pos (show x1 = (-1) from Decidable.byContradiction (fun h9 => c_4 h9)) hf
      exact j114_20_ok hd hf
  · replace hf := x_neg c_3 hf
    exact j114_20_ok hd hf
end
section
def j115_69  (o0 : Option Nat) (x1 : Int32) (x2 : Int32) (o3 : Option Nat) (x4 : Int32) (h : xH) : Option (Int32 × xH) := (xgR h o0 10 0).bind fun a_1 => (xcv h a_1 9).bind fun _ => (fn101 a_1 0 h).bind fun h_2 => some (x4, h_2)
theorem j115_69_ok {xs : List Int32} {d : Nat} (hd : 5 ≤ d) {o0 : Option Nat} {x1 : Int32} {x2 : Int32} {o3 : Option Nat} {x4 : Int32} {h : xH} {r : (Int32 × xH)} (hf : j115_69 o0 x1 x2 o3 x4 h = some r) : xEv (xTa xs) d 115 (69, [xrv o0, .int x1, .int x2, xrv o3, .int x4], [], h) (some (.int r.1), r.2) := by
  unfold j115_69 at hf
  refine sh_aload (i' := 0) (n := 1) i115_69 (Or.inr ⟨rfl, by decide⟩) rfl ?_
  obtain ⟨a_1, ea_1, hf⟩ := x_bind hf
  refine sh_getR i115_70 f115_14 ea_1 ?_
  refine ev_do i115_73 rfl ?_
  obtain ⟨_, eu_3, hf⟩ := x_bind hf
  obtain ⟨h_2, eh_2, hf⟩ := x_bind hf
  refine sh_inv (as := [.int 0]) (z := (none, h_2)) i115_74 v115_70 (Or.inl ⟨by decide, rfl⟩) m101 rfl (Nat.le_of_ble_eq_true rfl) eu_3 (fn101_call (by omega) eh_2) ?_
  refine ev_do i115_77 rfl ?_
  obtain rfl := Option.some.inj hf
  exact sh_iret i115_79 m115 rfl rfl
def fn115 (o0 : Option Nat) (x1 : Int32) (x2 : Int32) (h : xH) : Option (Int32 × xH) := (xgR h o0 10 1).bind fun a_1 => (xcv h a_1 8).bind fun _ => (fn84 a_1 x1 h).bind fun r_2 => (if r_2.1 = none then j115_69 o0 x1 x2 r_2.1 (-1) r_2.2 else (xgR r_2.2 o0 10 0).bind fun a_4 => (xcv r_2.2 a_4 9).bind fun _ => (fn108 a_4 97 122 r_2.2).bind fun r_5 => (if r_5.1 = 0 then j115_69 o0 x1 x2 r_2.1 (-1) r_5.2 else (xgR r_5.2 o0 10 1).bind fun a_7 => (xgR r_5.2 o0 10 0).bind fun a_8 => (xgR r_5.2 o0 10 0).bind fun a_9 => (xgI r_5.2 a_9 9 1).bind fun v_10 => (xcv r_5.2 a_7 8).bind fun _ => (fn88 a_7 r_2.1 a_8 0 v_10 r_5.2).bind fun r_11 => (if r_11.1 = none then (xgR r_11.2 o0 10 1).bind fun a_13 => (xgR r_11.2 o0 10 0).bind fun a_14 => (xcv r_11.2 a_13 8).bind fun _ => (fn82 a_13 r_2.1 none x2 a_14 r_11.2).bind fun r_15 => j115_69 o0 x1 x2 r_2.1 r_15.1 r_15.2 else j115_69 o0 x1 x2 r_2.1 (-1) r_11.2)))
theorem fn115_call {xs : List Int32} {d : Nat} (hd : 6 ≤ d) {o0 : Option Nat} {x1 : Int32} {x2 : Int32} {h : xH} {r : (Int32 × xH)} (hf : fn115 o0 x1 x2 h = some r) : xCall (xTa xs) d 115 [xrv o0, .int x1, .int x2] h (some (.int r.1), r.2) := by
  obtain ⟨d, rfl⟩ : ∃ d2, d = d2 + 1 := ⟨d - 1, by omega⟩
  replace hd : 5 ≤ d := by omega
  refine call_of2 (fl := [xrv o0, .int x1, .int x2]) (Ls := [xrv o0, .int x1, .int x2, .float 0, .float 0]) m115 (by simp [xfl, xrv_cat, xc_i, xc_j, xc_a, xc_f]) (Nat.le_of_ble_eq_true rfl) rfl ?_
  unfold fn115 at hf
  refine sh_aload (i' := 0) (n := 1) i115_0 (Or.inr ⟨rfl, by decide⟩) rfl ?_
  obtain ⟨a_1, ea_1, hf⟩ := x_bind hf
  refine sh_getR i115_1 f115_21 ea_1 ?_
  refine ev_do i115_4 rfl ?_
  obtain ⟨_, eu_19, hf⟩ := x_bind hf
  obtain ⟨r_2, er_2, hf⟩ := x_bind hf
  refine sh_inv (as := [.int x1]) (z := (some (xrv r_2.1), r_2.2)) i115_5 v115_73 (Or.inl ⟨by decide, rfl⟩) m84 rfl (Nat.le_of_ble_eq_true rfl) eu_19 (fn84_call (by omega) er_2) ?_
  refine sh_astore (i' := 3) (n := 1) i115_8 (Or.inr ⟨rfl, by decide⟩) (xokst_of (Nat.le_of_ble_eq_true rfl) rfl) ?_
  refine ev_do i115_9 rfl ?_
  refine sh_istore (i' := 4) (n := 2) i115_10 (Or.inl rfl) (xokst_of (Nat.le_of_ble_eq_true rfl) (xrv_cat (r_2.1))) ?_
  refine sh_aload (i' := 3) (n := 1) i115_12 (Or.inr ⟨rfl, by decide⟩) rfl ?_
  refine sh_null (t := 69) i115_13 rfl (fun c_3 => ?_) (fun c_3 => ?_)
  · replace hf := x_pos c_3 hf
    exact j115_69_ok hd hf
  · replace hf := x_neg c_3 hf
    refine sh_aload (i' := 0) (n := 1) i115_16 (Or.inr ⟨rfl, by decide⟩) rfl ?_
    obtain ⟨a_4, ea_4, hf⟩ := x_bind hf
    refine sh_getR i115_17 f115_14 ea_4 ?_
    refine ev_do i115_20 rfl ?_
    refine ev_do i115_22 rfl ?_
    obtain ⟨_, eu_18, hf⟩ := x_bind hf
    obtain ⟨r_5, er_5, hf⟩ := x_bind hf
    refine sh_inv (as := [.int 122, .int 97]) (z := (some (.int r_5.1), r_5.2)) i115_24 v115_77 (Or.inl ⟨by decide, rfl⟩) m108 rfl (Nat.le_of_ble_eq_true rfl) eu_18 (fn108_call (by omega) er_5) ?_
    refine ev_if (t := 69) i115_27 rfl (fun c_6 => ?_) (fun c_6 => ?_)
    · replace hf := x_pos (show r_5.1 = 0 from c_6) hf
      exact j115_69_ok hd hf
    · replace hf := x_neg (show ¬ r_5.1 = 0 from c_6) hf
      refine sh_aload (i' := 0) (n := 1) i115_30 (Or.inr ⟨rfl, by decide⟩) rfl ?_
      obtain ⟨a_7, ea_7, hf⟩ := x_bind hf
      refine sh_getR i115_31 f115_21 ea_7 ?_
      refine sh_aload (i' := 3) (n := 1) i115_34 (Or.inr ⟨rfl, by decide⟩) rfl ?_
      refine sh_aload (i' := 0) (n := 1) i115_35 (Or.inr ⟨rfl, by decide⟩) rfl ?_
      obtain ⟨a_8, ea_8, hf⟩ := x_bind hf
      refine sh_getR i115_36 f115_14 ea_8 ?_
      refine ev_do i115_39 rfl ?_
      refine sh_aload (i' := 0) (n := 1) i115_40 (Or.inr ⟨rfl, by decide⟩) rfl ?_
      obtain ⟨a_9, ea_9, hf⟩ := x_bind hf
      refine sh_getR i115_41 f115_14 ea_9 ?_
      obtain ⟨v_10, ev_10, hf⟩ := x_bind hf
      refine sh_getI i115_44 f115_63 ev_10 ?_
      obtain ⟨_, eu_17, hf⟩ := x_bind hf
      obtain ⟨r_11, er_11, hf⟩ := x_bind hf
      refine sh_inv (as := [.int v_10, .int 0, xrv a_8, xrv r_2.1]) (z := (some (xrv r_11.1), r_11.2)) i115_47 v115_89 (Or.inl ⟨by decide, rfl⟩) m88 rfl (Nat.le_of_ble_eq_true rfl) eu_17 (fn88_call (by omega) er_11) ?_
      refine sh_nnul (t := 69) i115_50 rfl (fun c_12 => ?_) (fun c_12 => ?_)
      · replace hf := x_pos c_12 hf
        refine sh_aload (i' := 0) (n := 1) i115_53 (Or.inr ⟨rfl, by decide⟩) rfl ?_
        obtain ⟨a_13, ea_13, hf⟩ := x_bind hf
        refine sh_getR i115_54 f115_21 ea_13 ?_
        refine sh_aload (i' := 3) (n := 1) i115_57 (Or.inr ⟨rfl, by decide⟩) rfl ?_
        refine sh_cnull i115_58 ?_
        refine ev_do i115_59 rfl ?_
        refine sh_aload (i' := 0) (n := 1) i115_60 (Or.inr ⟨rfl, by decide⟩) rfl ?_
        obtain ⟨a_14, ea_14, hf⟩ := x_bind hf
        refine sh_getR i115_61 f115_14 ea_14 ?_
        obtain ⟨_, eu_16, hf⟩ := x_bind hf
        obtain ⟨r_15, er_15, hf⟩ := x_bind hf
        refine sh_inv (as := [xrv a_14, .int x2, xrv none, xrv r_2.1]) (z := (some (.int r_15.1), r_15.2)) i115_64 v115_85 (Or.inl ⟨by decide, rfl⟩) m82 rfl (Nat.le_of_ble_eq_true rfl) eu_16 (fn82_call (by omega) er_15) ?_
        refine sh_istore (i' := 4) (n := 2) i115_67 (Or.inl rfl) (xokst_of (Nat.le_of_ble_eq_true rfl) (xrv_cat (r_2.1))) ?_
        exact j115_69_ok hd hf
      · replace hf := x_neg c_12 hf
        exact j115_69_ok hd hf
end
section
def j116_64  (o0 : Option Nat) (x1 : Int32) (o2 : Option Nat) (x3 : Int32) (h : xH) : Option (Int32 × xH) := (xgR h o0 10 0).bind fun a_1 => (xcv h a_1 9).bind fun _ => (fn101 a_1 0 h).bind fun h_2 => some (x3, h_2)
theorem j116_64_ok {xs : List Int32} {d : Nat} (hd : 5 ≤ d) {o0 : Option Nat} {x1 : Int32} {o2 : Option Nat} {x3 : Int32} {h : xH} {r : (Int32 × xH)} (hf : j116_64 o0 x1 o2 x3 h = some r) : xEv (xTa xs) d 116 (64, [xrv o0, .int x1, xrv o2, .int x3], [], h) (some (.int r.1), r.2) := by
  unfold j116_64 at hf
  refine sh_aload (i' := 0) (n := 1) i116_64 (Or.inr ⟨rfl, by decide⟩) rfl ?_
  obtain ⟨a_1, ea_1, hf⟩ := x_bind hf
  refine sh_getR i116_65 f116_14 ea_1 ?_
  refine ev_do i116_68 rfl ?_
  obtain ⟨_, eu_3, hf⟩ := x_bind hf
  obtain ⟨h_2, eh_2, hf⟩ := x_bind hf
  refine sh_inv (as := [.int 0]) (z := (none, h_2)) i116_69 v116_70 (Or.inl ⟨by decide, rfl⟩) m101 rfl (Nat.le_of_ble_eq_true rfl) eu_3 (fn101_call (by omega) eh_2) ?_
  refine ev_do i116_72 rfl ?_
  obtain rfl := Option.some.inj hf
  exact sh_iret i116_73 m116 rfl rfl
def fn116 (o0 : Option Nat) (x1 : Int32) (h : xH) : Option (Int32 × xH) := (xgR h o0 10 1).bind fun a_1 => (xcv h a_1 8).bind fun _ => (fn83 a_1 x1 h).bind fun r_2 => (if r_2.1 = none then j116_64 o0 x1 r_2.1 (-1) r_2.2 else (xcv r_2.2 r_2.1 2).bind fun _ => (fn12 r_2.1 r_2.2).bind fun r_4 => (if r_4.1 = 0 then (xgR r_4.2 o0 10 0).bind fun a_6 => (xcv r_4.2 a_6 9).bind fun _ => (fn108 a_6 97 122 r_4.2).bind fun r_7 => (if r_7.1 = 0 then j116_64 o0 x1 r_2.1 (-1) r_7.2 else (xgR r_7.2 o0 10 0).bind fun a_9 => (xgR r_7.2 o0 10 0).bind fun a_10 => (xgI r_7.2 a_10 9 1).bind fun v_11 => (xcv r_7.2 r_2.1 2).bind fun _ => (fn16 r_2.1 a_9 0 v_11 r_7.2).bind fun r_12 => (if r_12.1 = 0 then (xgR r_12.2 o0 10 0).bind fun a_14 => (xcv r_12.2 r_2.1 2).bind fun _ => (fn17 r_2.1 a_14 r_12.2).bind fun r_15 => j116_64 o0 x1 r_2.1 r_15.1 r_15.2 else j116_64 o0 x1 r_2.1 (-1) r_12.2)) else j116_64 o0 x1 r_2.1 (-1) r_4.2))
theorem fn116_call {xs : List Int32} {d : Nat} (hd : 6 ≤ d) {o0 : Option Nat} {x1 : Int32} {h : xH} {r : (Int32 × xH)} (hf : fn116 o0 x1 h = some r) : xCall (xTa xs) d 116 [xrv o0, .int x1] h (some (.int r.1), r.2) := by
  obtain ⟨d, rfl⟩ : ∃ d2, d = d2 + 1 := ⟨d - 1, by omega⟩
  replace hd : 5 ≤ d := by omega
  refine call_of2 (fl := [xrv o0, .int x1]) (Ls := [xrv o0, .int x1, .float 0, .float 0]) m116 (by simp [xfl, xrv_cat, xc_i, xc_j, xc_a, xc_f]) (Nat.le_of_ble_eq_true rfl) rfl ?_
  unfold fn116 at hf
  refine sh_aload (i' := 0) (n := 1) i116_0 (Or.inr ⟨rfl, by decide⟩) rfl ?_
  obtain ⟨a_1, ea_1, hf⟩ := x_bind hf
  refine sh_getR i116_1 f116_21 ea_1 ?_
  refine ev_do i116_4 rfl ?_
  obtain ⟨_, eu_20, hf⟩ := x_bind hf
  obtain ⟨r_2, er_2, hf⟩ := x_bind hf
  refine sh_inv (as := [.int x1]) (z := (some (xrv r_2.1), r_2.2)) i116_5 v116_93 (Or.inl ⟨by decide, rfl⟩) m83 rfl (Nat.le_of_ble_eq_true rfl) eu_20 (fn83_call (by omega) er_2) ?_
  refine sh_astore (i' := 2) (n := 1) i116_8 (Or.inr ⟨rfl, by decide⟩) (xokst_of (Nat.le_of_ble_eq_true rfl) rfl) ?_
  refine ev_do i116_9 rfl ?_
  refine sh_istore (i' := 3) (n := 1) i116_10 (Or.inr ⟨rfl, by decide⟩) (xokst_of (Nat.le_of_ble_eq_true rfl) (xrv_cat (r_2.1))) ?_
  refine sh_aload (i' := 2) (n := 1) i116_11 (Or.inr ⟨rfl, by decide⟩) rfl ?_
  refine sh_null (t := 64) i116_12 rfl (fun c_3 => ?_) (fun c_3 => ?_)
  · replace hf := x_pos c_3 hf
    exact j116_64_ok hd hf
  · replace hf := x_neg c_3 hf
    refine sh_aload (i' := 2) (n := 1) i116_15 (Or.inr ⟨rfl, by decide⟩) rfl ?_
    obtain ⟨_, eu_19, hf⟩ := x_bind hf
    obtain ⟨r_4, er_4, hf⟩ := x_bind hf
    refine sh_inv (as := []) (z := (some (.int r_4.1), r_4.2)) i116_16 v116_96 (Or.inl ⟨by decide, rfl⟩) m12 rfl (Nat.le_of_ble_eq_true rfl) eu_19 (fn12_call (by omega) er_4) ?_
    refine ev_if (t := 64) i116_19 rfl (fun c_5 => ?_) (fun c_5 => ?_)
    · replace hf := x_neg (show ¬ r_4.1 = 0 from c_5) hf
      exact j116_64_ok hd hf
    · replace hf := x_pos (show r_4.1 = 0 from Decidable.byContradiction (fun h9 => c_5 h9)) hf
      refine sh_aload (i' := 0) (n := 1) i116_22 (Or.inr ⟨rfl, by decide⟩) rfl ?_
      obtain ⟨a_6, ea_6, hf⟩ := x_bind hf
      refine sh_getR i116_23 f116_14 ea_6 ?_
      refine ev_do i116_26 rfl ?_
      refine ev_do i116_28 rfl ?_
      obtain ⟨_, eu_18, hf⟩ := x_bind hf
      obtain ⟨r_7, er_7, hf⟩ := x_bind hf
      refine sh_inv (as := [.int 122, .int 97]) (z := (some (.int r_7.1), r_7.2)) i116_30 v116_77 (Or.inl ⟨by decide, rfl⟩) m108 rfl (Nat.le_of_ble_eq_true rfl) eu_18 (fn108_call (by omega) er_7) ?_
      refine ev_if (t := 64) i116_33 rfl (fun c_8 => ?_) (fun c_8 => ?_)
      · replace hf := x_pos (show r_7.1 = 0 from c_8) hf
        exact j116_64_ok hd hf
      · replace hf := x_neg (show ¬ r_7.1 = 0 from c_8) hf
        refine sh_aload (i' := 2) (n := 1) i116_36 (Or.inr ⟨rfl, by decide⟩) rfl ?_
        refine sh_aload (i' := 0) (n := 1) i116_37 (Or.inr ⟨rfl, by decide⟩) rfl ?_
        obtain ⟨a_9, ea_9, hf⟩ := x_bind hf
        refine sh_getR i116_38 f116_14 ea_9 ?_
        refine ev_do i116_41 rfl ?_
        refine sh_aload (i' := 0) (n := 1) i116_42 (Or.inr ⟨rfl, by decide⟩) rfl ?_
        obtain ⟨a_10, ea_10, hf⟩ := x_bind hf
        refine sh_getR i116_43 f116_14 ea_10 ?_
        obtain ⟨v_11, ev_11, hf⟩ := x_bind hf
        refine sh_getI i116_46 f116_63 ev_11 ?_
        obtain ⟨_, eu_17, hf⟩ := x_bind hf
        obtain ⟨r_12, er_12, hf⟩ := x_bind hf
        refine sh_inv (as := [.int v_11, .int 0, xrv a_9]) (z := (some (.int r_12.1), r_12.2)) i116_49 v116_102 (Or.inl ⟨by decide, rfl⟩) m16 rfl (Nat.le_of_ble_eq_true rfl) eu_17 (fn16_call (by omega) er_12) ?_
        refine ev_if (t := 64) i116_52 rfl (fun c_13 => ?_) (fun c_13 => ?_)
        · replace hf := x_neg (show ¬ r_12.1 = 0 from c_13) hf
          exact j116_64_ok hd hf
        · replace hf := x_pos (show r_12.1 = 0 from Decidable.byContradiction (fun h9 => c_13 h9)) hf
          refine sh_aload (i' := 2) (n := 1) i116_55 (Or.inr ⟨rfl, by decide⟩) rfl ?_
          refine sh_aload (i' := 0) (n := 1) i116_56 (Or.inr ⟨rfl, by decide⟩) rfl ?_
          obtain ⟨a_14, ea_14, hf⟩ := x_bind hf
          refine sh_getR i116_57 f116_14 ea_14 ?_
          obtain ⟨_, eu_16, hf⟩ := x_bind hf
          obtain ⟨r_15, er_15, hf⟩ := x_bind hf
          refine sh_inv (as := [xrv a_14]) (z := (some (.int r_15.1), r_15.2)) i116_60 v116_106 (Or.inl ⟨by decide, rfl⟩) m17 rfl (Nat.le_of_ble_eq_true rfl) eu_16 (fn17_call (by omega) er_15) ?_
          refine sh_istore (i' := 3) (n := 1) i116_63 (Or.inr ⟨rfl, by decide⟩) (xokst_of (Nat.le_of_ble_eq_true rfl) (xrv_cat (r_2.1))) ?_
          exact j116_64_ok hd hf
end
section
def j118_27  (o0 : Option Nat) (o1 : Option Nat) (o2 : Option Nat) (s0 : Option Nat) (s1 : Option Nat) (h : xH) : Option (Int32 × xH) := (xpF h s0 10 5 (.object "DocFormat$Comment") (xrv s1)).bind fun h_1 => (xpF h_1 o1 2 7 (.object "DocFormat$Comment") (xrv o2)).bind fun h_2 => (xpF h_2 o1 2 8 .boolean (.int 1)).bind fun h_3 => (xgI h_3 o2 1 3).bind fun v_4 => some (v_4, h_3)
theorem j118_27_ok {xs : List Int32} {d : Nat} (hd : 3 ≤ d) {o0 : Option Nat} {o1 : Option Nat} {o2 : Option Nat} {s0 : Option Nat} {s1 : Option Nat} {h : xH} {r : (Int32 × xH)} (hf : j118_27 o0 o1 o2 s0 s1 h = some r) : xEv (xTa xs) d 118 (27, [xrv o0, xrv o1, xrv o2], [xrv s1, xrv s0], h) (some (.int r.1), r.2) := by
  unfold j118_27 at hf
  obtain ⟨h_1, eh_1, hf⟩ := x_bind hf
  refine sh_put i118_27 f118_49 (by decide) rfl eh_1 ?_
  refine sh_aload (i' := 1) (n := 1) i118_30 (Or.inr ⟨rfl, by decide⟩) rfl ?_
  refine sh_aload (i' := 2) (n := 1) i118_31 (Or.inr ⟨rfl, by decide⟩) rfl ?_
  obtain ⟨h_2, eh_2, hf⟩ := x_bind hf
  refine sh_put i118_32 f118_128 (by decide) rfl eh_2 ?_
  refine sh_aload (i' := 1) (n := 1) i118_35 (Or.inr ⟨rfl, by decide⟩) rfl ?_
  refine ev_do i118_36 rfl ?_
  obtain ⟨h_3, eh_3, hf⟩ := x_bind hf
  refine sh_put i118_37 f118_131 (by decide) rfl eh_3 ?_
  refine sh_aload (i' := 2) (n := 1) i118_40 (Or.inr ⟨rfl, by decide⟩) rfl ?_
  obtain ⟨v_4, ev_4, hf⟩ := x_bind hf
  refine sh_getI i118_41 f118_135 ev_4 ?_
  obtain rfl := Option.some.inj hf
  exact sh_iret i118_44 m118 rfl rfl
def fn118 (o0 : Option Nat) (o1 : Option Nat) (h : xH) : Option (Int32 × xH) := (xgR h o0 10 5).bind fun a_1 => (xgR h o1 2 7).bind fun a_2 => (if a_2 = none then (some (xnew h (1, [.null, .null, .null, .int 0, .int 0, .null]))).bind fun h_4 => (xcv h_4 (some h.1) 1).bind fun _ => (fn3 (some h.1) h_4).bind fun h_5 => j118_27 o0 o1 a_1 o0 (some h.1) h_5 else (xgR h o1 2 7).bind fun a_7 => j118_27 o0 o1 a_1 o0 a_7 h)
theorem fn118_call {xs : List Int32} {d : Nat} (hd : 4 ≤ d) {o0 : Option Nat} {o1 : Option Nat} {h : xH} {r : (Int32 × xH)} (hf : fn118 o0 o1 h = some r) : xCall (xTa xs) d 118 [xrv o0, xrv o1] h (some (.int r.1), r.2) := by
  obtain ⟨d, rfl⟩ : ∃ d2, d = d2 + 1 := ⟨d - 1, by omega⟩
  replace hd : 3 ≤ d := by omega
  refine call_of2 (fl := [xrv o0, xrv o1]) (Ls := [xrv o0, xrv o1, .float 0]) m118 (by simp [xfl, xrv_cat, xc_i, xc_j, xc_a, xc_f]) (Nat.le_of_ble_eq_true rfl) rfl ?_
  unfold fn118 at hf
  refine sh_aload (i' := 0) (n := 1) i118_0 (Or.inr ⟨rfl, by decide⟩) rfl ?_
  obtain ⟨a_1, ea_1, hf⟩ := x_bind hf
  refine sh_getR i118_1 f118_49 ea_1 ?_
  refine sh_astore (i' := 2) (n := 1) i118_4 (Or.inr ⟨rfl, by decide⟩) (xokst_of (Nat.le_of_ble_eq_true rfl) (xrv_cat (o1))) ?_
  refine sh_aload (i' := 0) (n := 1) i118_5 (Or.inr ⟨rfl, by decide⟩) rfl ?_
  refine sh_aload (i' := 1) (n := 1) i118_6 (Or.inr ⟨rfl, by decide⟩) rfl ?_
  obtain ⟨a_2, ea_2, hf⟩ := x_bind hf
  refine sh_getR i118_7 f118_128 ea_2 ?_
  refine sh_nnul (t := 23) i118_10 rfl (fun c_3 => ?_) (fun c_3 => ?_)
  · replace hf := x_pos c_3 hf
    obtain ⟨h_4, eh_4, hf⟩ := x_bind hf
    refine sh_new (fs := [.null, .null, .null, .int 0, .int 0, .null]) i118_13 c118_46 (by decide) rfl ?_
    rw [Option.some.inj eh_4]
    refine sh_dup i118_16 (xrv_cat (some h.1)) ?_
    obtain ⟨_, eu_6, hf⟩ := x_bind hf
    obtain ⟨h_5, eh_5, hf⟩ := x_bind hf
    refine sh_inv (as := []) (z := (none, h_5)) i118_17 v118_48 (Or.inr ⟨by decide, rfl⟩) m3 rfl (by simp [xcat, xrv_cat, xc_i, xc_j, xc_a, xc_f]) eu_6 (fn3_call (by omega) eh_5) ?_
    refine sh_goto (t := 27) i118_20 rfl ?_
    exact j118_27_ok hd hf
  · replace hf := x_neg c_3 hf
    refine sh_aload (i' := 1) (n := 1) i118_23 (Or.inr ⟨rfl, by decide⟩) rfl ?_
    obtain ⟨a_7, ea_7, hf⟩ := x_bind hf
    refine sh_getR i118_24 f118_128 ea_7 ?_
    exact j118_27_ok hd hf
end
section
def j117_82  (o0 : Option Nat) (x1 : Int32) (o2 : Option Nat) (s0 : Int32) (h : xH) : Option (Int32 × xH) := some (s0, h)
theorem j117_82_ok {xs : List Int32} {d : Nat} (hd : 8 ≤ d) {o0 : Option Nat} {x1 : Int32} {o2 : Option Nat} {s0 : Int32} {h : xH} {r : (Int32 × xH)} (hf : j117_82 o0 x1 o2 s0 h = some r) : xEv (xTa xs) d 117 (82, [xrv o0, .int x1, xrv o2], [.int s0], h) (some (.int r.1), r.2) := by
  unfold j117_82 at hf
  obtain rfl := Option.some.inj hf
  exact sh_iret i117_82 m117 rfl rfl
def fn117 (o0 : Option Nat) (x1 : Int32) (h : xH) : Option (Int32 × xH) := (xgR h o0 10 1).bind fun a_1 => (xcv h a_1 8).bind fun _ => (fn83 a_1 x1 h).bind fun r_2 => (if r_2.1 = none then (xgR r_2.2 o0 10 0).bind fun a_4 => (xcv r_2.2 a_4 9).bind fun _ => (fn101 a_4 0 r_2.2).bind fun h_5 => some ((-1), h_5) else (xgR r_2.2 o0 10 5).bind fun a_7 => (xgR r_2.2 o0 10 0).bind fun a_8 => (xcv r_2.2 a_7 1).bind fun _ => (fn4 a_7 a_8 r_2.1 r_2.2).bind fun h_9 => (xgR h_9 o0 10 0).bind fun a_10 => (xcv h_9 a_10 9).bind fun _ => (fn101 a_10 0 h_9).bind fun h_11 => (xgR h_11 o0 10 2).bind fun a_12 => (xgR h_11 o0 10 5).bind fun a_13 => (xcv h_11 a_12 7).bind fun _ => (fn61 a_12 a_13 h_11).bind fun h_14 => (xgR h_14 o0 10 2).bind fun a_15 => (xgI h_14 a_15 7 5).bind fun v_16 => (if v_16 = 0 then (xcv h_14 o0 10).bind fun _ => (fn118 o0 r_2.1 h_14).bind fun r_18 => j117_82 o0 x1 r_2.1 r_18.1 r_18.2 else (xgR h_14 o0 10 2).bind fun a_20 => (xgI h_14 a_20 7 6).bind fun v_21 => j117_82 o0 x1 r_2.1 ((-10) - v_21) h_14))
theorem fn117_call {xs : List Int32} {d : Nat} (hd : 9 ≤ d) {o0 : Option Nat} {x1 : Int32} {h : xH} {r : (Int32 × xH)} (hf : fn117 o0 x1 h = some r) : xCall (xTa xs) d 117 [xrv o0, .int x1] h (some (.int r.1), r.2) := by
  obtain ⟨d, rfl⟩ : ∃ d2, d = d2 + 1 := ⟨d - 1, by omega⟩
  replace hd : 8 ≤ d := by omega
  refine call_of2 (fl := [xrv o0, .int x1]) (Ls := [xrv o0, .int x1, .float 0]) m117 (by simp [xfl, xrv_cat, xc_i, xc_j, xc_a, xc_f]) (Nat.le_of_ble_eq_true rfl) rfl ?_
  unfold fn117 at hf
  refine sh_aload (i' := 0) (n := 1) i117_0 (Or.inr ⟨rfl, by decide⟩) rfl ?_
  obtain ⟨a_1, ea_1, hf⟩ := x_bind hf
  refine sh_getR i117_1 f117_21 ea_1 ?_
  refine ev_do i117_4 rfl ?_
  obtain ⟨_, eu_25, hf⟩ := x_bind hf
  obtain ⟨r_2, er_2, hf⟩ := x_bind hf
  refine sh_inv (as := [.int x1]) (z := (some (xrv r_2.1), r_2.2)) i117_5 v117_93 (Or.inl ⟨by decide, rfl⟩) m83 rfl (Nat.le_of_ble_eq_true rfl) eu_25 (fn83_call (by omega) er_2) ?_
  refine sh_astore (i' := 2) (n := 1) i117_8 (Or.inr ⟨rfl, by decide⟩) (xokst_of (Nat.le_of_ble_eq_true rfl) rfl) ?_
  refine sh_aload (i' := 2) (n := 1) i117_9 (Or.inr ⟨rfl, by decide⟩) rfl ?_
  refine sh_nnul (t := 23) i117_10 rfl (fun c_3 => ?_) (fun c_3 => ?_)
  · replace hf := x_pos c_3 hf
    refine sh_aload (i' := 0) (n := 1) i117_13 (Or.inr ⟨rfl, by decide⟩) rfl ?_
    obtain ⟨a_4, ea_4, hf⟩ := x_bind hf
    refine sh_getR i117_14 f117_14 ea_4 ?_
    refine ev_do i117_17 rfl ?_
    obtain ⟨_, eu_6, hf⟩ := x_bind hf
    obtain ⟨h_5, eh_5, hf⟩ := x_bind hf
    refine sh_inv (as := [.int 0]) (z := (none, h_5)) i117_18 v117_70 (Or.inl ⟨by decide, rfl⟩) m101 rfl (Nat.le_of_ble_eq_true rfl) eu_6 (fn101_call (by omega) eh_5) ?_
    refine ev_do i117_21 rfl ?_
    obtain rfl := Option.some.inj hf
    exact sh_iret i117_22 m117 rfl rfl
  · replace hf := x_neg c_3 hf
    refine sh_aload (i' := 0) (n := 1) i117_23 (Or.inr ⟨rfl, by decide⟩) rfl ?_
    obtain ⟨a_7, ea_7, hf⟩ := x_bind hf
    refine sh_getR i117_24 f117_49 ea_7 ?_
    refine sh_aload (i' := 0) (n := 1) i117_27 (Or.inr ⟨rfl, by decide⟩) rfl ?_
    obtain ⟨a_8, ea_8, hf⟩ := x_bind hf
    refine sh_getR i117_28 f117_14 ea_8 ?_
    refine sh_aload (i' := 2) (n := 1) i117_31 (Or.inr ⟨rfl, by decide⟩) rfl ?_
    obtain ⟨_, eu_24, hf⟩ := x_bind hf
    obtain ⟨h_9, eh_9, hf⟩ := x_bind hf
    refine sh_inv (as := [xrv r_2.1, xrv a_8]) (z := (none, h_9)) i117_32 v117_110 (Or.inl ⟨by decide, rfl⟩) m4 rfl (Nat.le_of_ble_eq_true rfl) eu_24 (fn4_call (by omega) eh_9) ?_
    refine sh_aload (i' := 0) (n := 1) i117_35 (Or.inr ⟨rfl, by decide⟩) rfl ?_
    obtain ⟨a_10, ea_10, hf⟩ := x_bind hf
    refine sh_getR i117_36 f117_14 ea_10 ?_
    refine ev_do i117_39 rfl ?_
    obtain ⟨_, eu_23, hf⟩ := x_bind hf
    obtain ⟨h_11, eh_11, hf⟩ := x_bind hf
    refine sh_inv (as := [.int 0]) (z := (none, h_11)) i117_40 v117_70 (Or.inl ⟨by decide, rfl⟩) m101 rfl (Nat.le_of_ble_eq_true rfl) eu_23 (fn101_call (by omega) eh_11) ?_
    refine sh_aload (i' := 0) (n := 1) i117_43 (Or.inr ⟨rfl, by decide⟩) rfl ?_
    obtain ⟨a_12, ea_12, hf⟩ := x_bind hf
    refine sh_getR i117_44 f117_28 ea_12 ?_
    refine sh_aload (i' := 0) (n := 1) i117_47 (Or.inr ⟨rfl, by decide⟩) rfl ?_
    obtain ⟨a_13, ea_13, hf⟩ := x_bind hf
    refine sh_getR i117_48 f117_49 ea_13 ?_
    obtain ⟨_, eu_22, hf⟩ := x_bind hf
    obtain ⟨h_14, eh_14, hf⟩ := x_bind hf
    refine sh_inv (as := [xrv a_13]) (z := (none, h_14)) i117_51 v117_114 (Or.inl ⟨by decide, rfl⟩) m61 rfl (Nat.le_of_ble_eq_true rfl) eu_22 (fn61_call (by omega) eh_14) ?_
    refine sh_aload (i' := 0) (n := 1) i117_54 (Or.inr ⟨rfl, by decide⟩) rfl ?_
    obtain ⟨a_15, ea_15, hf⟩ := x_bind hf
    refine sh_getR i117_55 f117_28 ea_15 ?_
    obtain ⟨v_16, ev_16, hf⟩ := x_bind hf
    refine sh_getI i117_58 f117_118 ev_16 ?_
    refine ev_if (t := 72) i117_61 rfl (fun c_17 => ?_) (fun c_17 => ?_)
    · replace hf := x_neg (show ¬ v_16 = 0 from c_17) hf
      refine ev_do i117_72 rfl ?_
      refine sh_aload (i' := 0) (n := 1) i117_74 (Or.inr ⟨rfl, by decide⟩) rfl ?_
      obtain ⟨a_20, ea_20, hf⟩ := x_bind hf
      refine sh_getR i117_75 f117_28 ea_20 ?_
      obtain ⟨v_21, ev_21, hf⟩ := x_bind hf
      refine sh_getI i117_78 f117_125 ev_21 ?_
      refine ev_do i117_81 rfl ?_
      exact j117_82_ok hd hf
    · replace hf := x_pos (show v_16 = 0 from Decidable.byContradiction (fun h9 => c_17 h9)) hf
      refine sh_aload (i' := 0) (n := 1) i117_64 (Or.inr ⟨rfl, by decide⟩) rfl ?_
      refine sh_aload (i' := 2) (n := 1) i117_65 (Or.inr ⟨rfl, by decide⟩) rfl ?_
      obtain ⟨_, eu_19, hf⟩ := x_bind hf
      obtain ⟨r_18, er_18, hf⟩ := x_bind hf
      refine sh_inv (as := [xrv r_2.1]) (z := (some (.int r_18.1), r_18.2)) i117_66 v117_121 (Or.inl ⟨by decide, rfl⟩) m118 rfl (Nat.le_of_ble_eq_true rfl) eu_19 (fn118_call (by omega) er_18) ?_
      refine sh_goto (t := 82) i117_69 rfl ?_
      exact j117_82_ok hd hf
end
section
def fn119 (o0 : Option Nat) (h : xH) : Option (Int32 × xH) := (xgR h o0 10 2).bind fun a_1 => (xgI h a_1 7 5).bind fun v_2 => some (v_2, h)
theorem fn119_call {xs : List Int32} {d : Nat} (hd : 2 ≤ d) {o0 : Option Nat} {h : xH} {r : (Int32 × xH)} (hf : fn119 o0 h = some r) : xCall (xTa xs) d 119 [xrv o0] h (some (.int r.1), r.2) := by
  obtain ⟨d, rfl⟩ : ∃ d2, d = d2 + 1 := ⟨d - 1, by omega⟩
  replace hd : 1 ≤ d := by omega
  refine call_of2 (fl := [xrv o0]) (Ls := [xrv o0]) m119 (by simp [xfl, xrv_cat, xc_i, xc_j, xc_a, xc_f]) (Nat.le_of_ble_eq_true rfl) rfl ?_
  unfold fn119 at hf
  refine sh_aload (i' := 0) (n := 1) i119_0 (Or.inr ⟨rfl, by decide⟩) rfl ?_
  obtain ⟨a_1, ea_1, hf⟩ := x_bind hf
  refine sh_getR i119_1 f119_28 ea_1 ?_
  obtain ⟨v_2, ev_2, hf⟩ := x_bind hf
  refine sh_getI i119_4 f119_118 ev_2 ?_
  obtain rfl := Option.some.inj hf
  exact sh_iret i119_7 m119 rfl rfl
end
section
def fn120 (o0 : Option Nat) (x1 : Int32) (h : xH) : Option (Int32 × xH) := (xgR h o0 10 1).bind fun a_1 => (xcv h a_1 8).bind fun _ => (fn83 a_1 x1 h).bind fun r_2 => (if r_2.1 = none then some ((-1), r_2.2) else (xcv r_2.2 r_2.1 2).bind fun _ => (fn14 r_2.1 r_2.2).bind fun r_4 => (if r_4.1 = none then some ((-2), r_4.2) else (xpF r_4.2 r_2.1 2 8 .boolean (.int 0)).bind fun h_6 => (xgI h_6 r_4.1 1 3).bind fun v_7 => some (v_7, h_6)))
theorem fn120_call {xs : List Int32} {d : Nat} (hd : 3 ≤ d) {o0 : Option Nat} {x1 : Int32} {h : xH} {r : (Int32 × xH)} (hf : fn120 o0 x1 h = some r) : xCall (xTa xs) d 120 [xrv o0, .int x1] h (some (.int r.1), r.2) := by
  obtain ⟨d, rfl⟩ : ∃ d2, d = d2 + 1 := ⟨d - 1, by omega⟩
  replace hd : 2 ≤ d := by omega
  refine call_of2 (fl := [xrv o0, .int x1]) (Ls := [xrv o0, .int x1, .float 0, .float 0]) m120 (by simp [xfl, xrv_cat, xc_i, xc_j, xc_a, xc_f]) (Nat.le_of_ble_eq_true rfl) rfl ?_
  unfold fn120 at hf
  refine sh_aload (i' := 0) (n := 1) i120_0 (Or.inr ⟨rfl, by decide⟩) rfl ?_
  obtain ⟨a_1, ea_1, hf⟩ := x_bind hf
  refine sh_getR i120_1 f120_21 ea_1 ?_
  refine ev_do i120_4 rfl ?_
  obtain ⟨_, eu_9, hf⟩ := x_bind hf
  obtain ⟨r_2, er_2, hf⟩ := x_bind hf
  refine sh_inv (as := [.int x1]) (z := (some (xrv r_2.1), r_2.2)) i120_5 v120_93 (Or.inl ⟨by decide, rfl⟩) m83 rfl (Nat.le_of_ble_eq_true rfl) eu_9 (fn83_call (by omega) er_2) ?_
  refine sh_astore (i' := 2) (n := 1) i120_8 (Or.inr ⟨rfl, by decide⟩) (xokst_of (Nat.le_of_ble_eq_true rfl) rfl) ?_
  refine sh_aload (i' := 2) (n := 1) i120_9 (Or.inr ⟨rfl, by decide⟩) rfl ?_
  refine sh_nnul (t := 15) i120_10 rfl (fun c_3 => ?_) (fun c_3 => ?_)
  · replace hf := x_pos c_3 hf
    refine ev_do i120_13 rfl ?_
    obtain rfl := Option.some.inj hf
    exact sh_iret i120_14 m120 rfl rfl
  · replace hf := x_neg c_3 hf
    refine sh_aload (i' := 2) (n := 1) i120_15 (Or.inr ⟨rfl, by decide⟩) rfl ?_
    obtain ⟨_, eu_8, hf⟩ := x_bind hf
    obtain ⟨r_4, er_4, hf⟩ := x_bind hf
    refine sh_inv (as := []) (z := (some (xrv r_4.1), r_4.2)) i120_16 v120_138 (Or.inl ⟨by decide, rfl⟩) m14 rfl (Nat.le_of_ble_eq_true rfl) eu_8 (fn14_call (by omega) er_4) ?_
    refine sh_astore (i' := 3) (n := 1) i120_19 (Or.inr ⟨rfl, by decide⟩) (xokst_of (Nat.le_of_ble_eq_true rfl) (xrv_cat (r_2.1))) ?_
    refine sh_aload (i' := 3) (n := 1) i120_20 (Or.inr ⟨rfl, by decide⟩) rfl ?_
    refine sh_nnul (t := 27) i120_21 rfl (fun c_5 => ?_) (fun c_5 => ?_)
    · replace hf := x_pos c_5 hf
      refine ev_do i120_24 rfl ?_
      obtain rfl := Option.some.inj hf
      exact sh_iret i120_26 m120 rfl rfl
    · replace hf := x_neg c_5 hf
      refine sh_aload (i' := 2) (n := 1) i120_27 (Or.inr ⟨rfl, by decide⟩) rfl ?_
      refine ev_do i120_28 rfl ?_
      obtain ⟨h_6, eh_6, hf⟩ := x_bind hf
      refine sh_put i120_29 f120_131 (by decide) rfl eh_6 ?_
      refine sh_aload (i' := 3) (n := 1) i120_32 (Or.inr ⟨rfl, by decide⟩) rfl ?_
      obtain ⟨v_7, ev_7, hf⟩ := x_bind hf
      refine sh_getI i120_33 f120_135 ev_7 ?_
      obtain rfl := Option.some.inj hf
      exact sh_iret i120_36 m120 rfl rfl
end
section
def j134_12  (o0 : Option Nat) (s0 : Int32) (h : xH) : Option (Int32 × xH) := some (s0, h)
theorem j134_12_ok {xs : List Int32} {d : Nat} (hd : 1 ≤ d) {o0 : Option Nat} {s0 : Int32} {h : xH} {r : (Int32 × xH)} (hf : j134_12 o0 s0 h = some r) : xEv (xTa xs) d 134 (12, [xrv o0], [.int s0], h) (some (.int r.1), r.2) := by
  unfold j134_12 at hf
  obtain rfl := Option.some.inj hf
  exact sh_iret i134_12 m134 rfl rfl
def fn134 (o0 : Option Nat) (h : xH) : Option (Int32 × xH) := (if o0 = none then j134_12 o0 (-1) h else (xgI h o0 2 0).bind fun v_2 => j134_12 o0 v_2 h)
theorem fn134_call {xs : List Int32} {d : Nat} (hd : 2 ≤ d) {o0 : Option Nat} {h : xH} {r : (Int32 × xH)} (hf : fn134 o0 h = some r) : xCall (xTa xs) d 134 [xrv o0] h (some (.int r.1), r.2) := by
  obtain ⟨d, rfl⟩ : ∃ d2, d = d2 + 1 := ⟨d - 1, by omega⟩
  replace hd : 1 ≤ d := by omega
  refine call_of2 (fl := [xrv o0]) (Ls := [xrv o0]) m134 (by simp [xfl, xrv_cat, xc_i, xc_j, xc_a, xc_f]) (Nat.le_of_ble_eq_true rfl) rfl ?_
  unfold fn134 at hf
  refine sh_aload (i' := 0) (n := 1) i134_0 (Or.inr ⟨rfl, by decide⟩) rfl ?_
  refine sh_nnul (t := 8) i134_1 rfl (fun c_1 => ?_) (fun c_1 => ?_)
  · replace hf := x_pos c_1 hf
    refine ev_do i134_4 rfl ?_
    refine sh_goto (t := 12) i134_5 rfl ?_
    exact j134_12_ok hd hf
  · replace hf := x_neg c_1 hf
    refine sh_aload (i' := 0) (n := 1) i134_8 (Or.inr ⟨rfl, by decide⟩) rfl ?_
    obtain ⟨v_2, ev_2, hf⟩ := x_bind hf
    refine sh_getI i134_9 f134_293 ev_2 ?_
    exact j134_12_ok hd hf
end
section
def j121_155  (o0 : Option Nat) (x1 : Int32) (x2 : Int32) (o3 : Option Nat) (o4 : Option Nat) (s0 : Int32) (h : xH) : Option (Int32 × xH) := some (s0, h)
theorem j121_155_ok {xs : List Int32} {d : Nat} (hd : 6 ≤ d) {o0 : Option Nat} {x1 : Int32} {x2 : Int32} {o3 : Option Nat} {o4 : Option Nat} {s0 : Int32} {h : xH} {r : (Int32 × xH)} (hf : j121_155 o0 x1 x2 o3 o4 s0 h = some r) : xEv (xTa xs) d 121 (155, [xrv o0, .int x1, .int x2, xrv o3, xrv o4], [.int s0], h) (some (.int r.1), r.2) := by
  unfold j121_155 at hf
  obtain rfl := Option.some.inj hf
  exact sh_iret i121_155 m121 rfl rfl
def j121_140  (o0 : Option Nat) (x1 : Int32) (x2 : Int32) (o3 : Option Nat) (o4 : Option Nat) (s0 : Int32) (h : xH) : Option (Int32 × xH) := some (s0, h)
theorem j121_140_ok {xs : List Int32} {d : Nat} (hd : 6 ≤ d) {o0 : Option Nat} {x1 : Int32} {x2 : Int32} {o3 : Option Nat} {o4 : Option Nat} {s0 : Int32} {h : xH} {r : (Int32 × xH)} (hf : j121_140 o0 x1 x2 o3 o4 s0 h = some r) : xEv (xTa xs) d 121 (140, [xrv o0, .int x1, .int x2, xrv o3, xrv o4], [.int s0], h) (some (.int r.1), r.2) := by
  unfold j121_140 at hf
  obtain rfl := Option.some.inj hf
  exact sh_iret i121_140 m121 rfl rfl
def j121_101  (o0 : Option Nat) (x1 : Int32) (x2 : Int32) (o3 : Option Nat) (o4 : Option Nat) (s0 : Int32) (h : xH) : Option (Int32 × xH) := some (s0, h)
theorem j121_101_ok {xs : List Int32} {d : Nat} (hd : 6 ≤ d) {o0 : Option Nat} {x1 : Int32} {x2 : Int32} {o3 : Option Nat} {o4 : Option Nat} {s0 : Int32} {h : xH} {r : (Int32 × xH)} (hf : j121_101 o0 x1 x2 o3 o4 s0 h = some r) : xEv (xTa xs) d 121 (101, [xrv o0, .int x1, .int x2, xrv o3, xrv o4], [.int s0], h) (some (.int r.1), r.2) := by
  unfold j121_101 at hf
  obtain rfl := Option.some.inj hf
  exact sh_iret i121_101 m121 rfl rfl
def fn121 (o0 : Option Nat) (x1 : Int32) (x2 : Int32) (h : xH) : Option (Int32 × xH) := (xgR h o0 10 1).bind fun a_1 => (xcv h a_1 8).bind fun _ => (fn83 a_1 x1 h).bind fun r_2 => (if r_2.1 = none then some ((-9), r_2.2) else (xcv r_2.2 r_2.1 2).bind fun _ => (fn14 r_2.1 r_2.2).bind fun r_4 => (if x2 = 0 then (xgR r_4.2 r_2.1 2 2).bind fun a_6 => (fn134 a_6 r_4.2).bind fun r_7 => some (r_7.1, r_7.2) else (if x2 = 1 then (xgR r_4.2 r_2.1 2 3).bind fun a_9 => (fn134 a_9 r_4.2).bind fun r_10 => some (r_10.1, r_10.2) else (if x2 = 2 then (xgI r_4.2 r_2.1 2 6).bind fun v_12 => some (v_12, r_4.2) else (if x2 = 3 then (xgI r_4.2 r_2.1 2 4).bind fun v_14 => (if v_14 = 0 then j121_101 o0 x1 x2 r_2.1 r_4.1 0 r_4.2 else j121_101 o0 x1 x2 r_2.1 r_4.1 1 r_4.2) else (if x2 = 4 then (xgR r_4.2 o0 10 1).bind fun a_17 => (xcv r_4.2 a_17 8).bind fun _ => (fn90 a_17 r_2.1 r_4.2).bind fun r_18 => (fn134 r_18.1 r_18.2).bind fun r_19 => some (r_19.1, r_19.2) else (if x2 = 5 then (xgR r_4.2 o0 10 1).bind fun a_22 => (xcv r_4.2 a_22 8).bind fun _ => (fn91 a_22 r_2.1 r_4.2).bind fun r_23 => (fn134 r_23.1 r_23.2).bind fun r_24 => some (r_24.1, r_24.2) else (if x2 = 6 then (if r_4.1 = none then j121_140 o0 x1 x2 r_2.1 r_4.1 0 r_4.2 else (xgI r_4.2 r_4.1 1 3).bind fun v_28 => j121_140 o0 x1 x2 r_2.1 r_4.1 v_28 r_4.2) else (if x2 = 7 then (if r_4.1 = none then j121_155 o0 x1 x2 r_2.1 r_4.1 0 r_4.2 else (xgI r_4.2 r_4.1 1 4).bind fun v_31 => j121_155 o0 x1 x2 r_2.1 r_4.1 v_31 r_4.2) else some ((-9), r_4.2))))))))))
theorem fn121_call {xs : List Int32} {d : Nat} (hd : 7 ≤ d) {o0 : Option Nat} {x1 : Int32} {x2 : Int32} {h : xH} {r : (Int32 × xH)} (hf : fn121 o0 x1 x2 h = some r) : xCall (xTa xs) d 121 [xrv o0, .int x1, .int x2] h (some (.int r.1), r.2) := by
  obtain ⟨d, rfl⟩ : ∃ d2, d = d2 + 1 := ⟨d - 1, by omega⟩
  replace hd : 6 ≤ d := by omega
  refine call_of2 (fl := [xrv o0, .int x1, .int x2]) (Ls := [xrv o0, .int x1, .int x2, .float 0, .float 0]) m121 (by simp [xfl, xrv_cat, xc_i, xc_j, xc_a, xc_f]) (Nat.le_of_ble_eq_true rfl) rfl ?_
  unfold fn121 at hf
  refine sh_aload (i' := 0) (n := 1) i121_0 (Or.inr ⟨rfl, by decide⟩) rfl ?_
  obtain ⟨a_1, ea_1, hf⟩ := x_bind hf
  refine sh_getR i121_1 f121_21 ea_1 ?_
  refine ev_do i121_4 rfl ?_
  obtain ⟨_, eu_33, hf⟩ := x_bind hf
  obtain ⟨r_2, er_2, hf⟩ := x_bind hf
  refine sh_inv (as := [.int x1]) (z := (some (xrv r_2.1), r_2.2)) i121_5 v121_93 (Or.inl ⟨by decide, rfl⟩) m83 rfl (Nat.le_of_ble_eq_true rfl) eu_33 (fn83_call (by omega) er_2) ?_
  refine sh_astore (i' := 3) (n := 1) i121_8 (Or.inr ⟨rfl, by decide⟩) (xokst_of (Nat.le_of_ble_eq_true rfl) rfl) ?_
  refine sh_aload (i' := 3) (n := 1) i121_9 (Or.inr ⟨rfl, by decide⟩) rfl ?_
  refine sh_nnul (t := 16) i121_10 rfl (fun c_3 => ?_) (fun c_3 => ?_)
  · replace hf := x_pos c_3 hf
    refine ev_do i121_13 rfl ?_
    obtain rfl := Option.some.inj hf
    exact sh_iret i121_15 m121 rfl rfl
  · replace hf := x_neg c_3 hf
    refine sh_aload (i' := 3) (n := 1) i121_16 (Or.inr ⟨rfl, by decide⟩) rfl ?_
    obtain ⟨_, eu_32, hf⟩ := x_bind hf
    obtain ⟨r_4, er_4, hf⟩ := x_bind hf
    refine sh_inv (as := []) (z := (some (xrv r_4.1), r_4.2)) i121_17 v121_138 (Or.inl ⟨by decide, rfl⟩) m14 rfl (Nat.le_of_ble_eq_true rfl) eu_32 (fn14_call (by omega) er_4) ?_
    refine sh_astore (i' := 4) (n := 2) i121_20 (Or.inl rfl) (xokst_of (Nat.le_of_ble_eq_true rfl) (xrv_cat (r_2.1))) ?_
    refine ev_do i121_22 rfl ?_
    by_cases c_5 : x2 = 0
    · replace hf := x_pos c_5 hf
      refine sh_tswC (c := 0) (t := 68) i121_23 (show (x2).toInt = 0 by rw [c_5]; rfl) (by decide) (by decide) rfl rfl ?_
      refine sh_aload (i' := 3) (n := 1) i121_68 (Or.inr ⟨rfl, by decide⟩) rfl ?_
      obtain ⟨a_6, ea_6, hf⟩ := x_bind hf
      refine sh_getR i121_69 f121_142 ea_6 ?_
      obtain ⟨r_7, er_7, hf⟩ := x_bind hf
      refine ev_sta (as := [xrv a_6]) (z := (some (.int r_7.1), r_7.2)) i121_72 v121_146 (Or.inl rfl) m134 rfl (Nat.le_of_ble_eq_true rfl) (fn134_call (by omega) er_7) ?_
      obtain rfl := Option.some.inj hf
      exact sh_iret i121_75 m121 rfl rfl
    · replace hf := x_neg c_5 hf
      by_cases c_8 : x2 = 1
      · replace hf := x_pos c_8 hf
        refine sh_tswC (c := 1) (t := 76) i121_23 (show (x2).toInt = 1 by rw [c_8]; rfl) (by decide) (by decide) rfl rfl ?_
        refine sh_aload (i' := 3) (n := 1) i121_76 (Or.inr ⟨rfl, by decide⟩) rfl ?_
        obtain ⟨a_9, ea_9, hf⟩ := x_bind hf
        refine sh_getR i121_77 f121_149 ea_9 ?_
        obtain ⟨r_10, er_10, hf⟩ := x_bind hf
        refine ev_sta (as := [xrv a_9]) (z := (some (.int r_10.1), r_10.2)) i121_80 v121_146 (Or.inl rfl) m134 rfl (Nat.le_of_ble_eq_true rfl) (fn134_call (by omega) er_10) ?_
        obtain rfl := Option.some.inj hf
        exact sh_iret i121_83 m121 rfl rfl
      · replace hf := x_neg c_8 hf
        by_cases c_11 : x2 = 2
        · replace hf := x_pos c_11 hf
          refine sh_tswC (c := 2) (t := 84) i121_23 (show (x2).toInt = 2 by rw [c_11]; rfl) (by decide) (by decide) rfl rfl ?_
          refine sh_aload (i' := 3) (n := 1) i121_84 (Or.inr ⟨rfl, by decide⟩) rfl ?_
          obtain ⟨v_12, ev_12, hf⟩ := x_bind hf
          refine sh_getI i121_85 f121_152 ev_12 ?_
          obtain rfl := Option.some.inj hf
          exact sh_iret i121_88 m121 rfl rfl
        · replace hf := x_neg c_11 hf
          by_cases c_13 : x2 = 3
          · replace hf := x_pos c_13 hf
            refine sh_tswC (c := 3) (t := 89) i121_23 (show (x2).toInt = 3 by rw [c_13]; rfl) (by decide) (by decide) rfl rfl ?_
            refine sh_aload (i' := 3) (n := 1) i121_89 (Or.inr ⟨rfl, by decide⟩) rfl ?_
            obtain ⟨v_14, ev_14, hf⟩ := x_bind hf
            refine sh_getI i121_90 f121_155 ev_14 ?_
            refine ev_if (t := 100) i121_93 rfl (fun c_15 => ?_) (fun c_15 => ?_)
            · replace hf := x_pos (show v_14 = 0 from c_15) hf
              refine ev_do i121_100 rfl ?_
              exact j121_101_ok hd hf
            · replace hf := x_neg (show ¬ v_14 = 0 from c_15) hf
              refine ev_do i121_96 rfl ?_
              refine sh_goto (t := 101) i121_97 rfl ?_
              exact j121_101_ok hd hf
          · replace hf := x_neg c_13 hf
            by_cases c_16 : x2 = 4
            · replace hf := x_pos c_16 hf
              refine sh_tswC (c := 4) (t := 102) i121_23 (show (x2).toInt = 4 by rw [c_16]; rfl) (by decide) (by decide) rfl rfl ?_
              refine sh_aload (i' := 0) (n := 1) i121_102 (Or.inr ⟨rfl, by decide⟩) rfl ?_
              obtain ⟨a_17, ea_17, hf⟩ := x_bind hf
              refine sh_getR i121_103 f121_21 ea_17 ?_
              refine sh_aload (i' := 3) (n := 1) i121_106 (Or.inr ⟨rfl, by decide⟩) rfl ?_
              obtain ⟨_, eu_20, hf⟩ := x_bind hf
              obtain ⟨r_18, er_18, hf⟩ := x_bind hf
              refine sh_inv (as := [xrv r_2.1]) (z := (some (xrv r_18.1), r_18.2)) i121_107 v121_158 (Or.inl ⟨by decide, rfl⟩) m90 rfl (Nat.le_of_ble_eq_true rfl) eu_20 (fn90_call (by omega) er_18) ?_
              obtain ⟨r_19, er_19, hf⟩ := x_bind hf
              refine ev_sta (as := [xrv r_18.1]) (z := (some (.int r_19.1), r_19.2)) i121_110 v121_146 (Or.inl rfl) m134 rfl (Nat.le_of_ble_eq_true rfl) (fn134_call (by omega) er_19) ?_
              obtain rfl := Option.some.inj hf
              exact sh_iret i121_113 m121 rfl rfl
            · replace hf := x_neg c_16 hf
              by_cases c_21 : x2 = 5
              · replace hf := x_pos c_21 hf
                refine sh_tswC (c := 5) (t := 114) i121_23 (show (x2).toInt = 5 by rw [c_21]; rfl) (by decide) (by decide) rfl rfl ?_
                refine sh_aload (i' := 0) (n := 1) i121_114 (Or.inr ⟨rfl, by decide⟩) rfl ?_
                obtain ⟨a_22, ea_22, hf⟩ := x_bind hf
                refine sh_getR i121_115 f121_21 ea_22 ?_
                refine sh_aload (i' := 3) (n := 1) i121_118 (Or.inr ⟨rfl, by decide⟩) rfl ?_
                obtain ⟨_, eu_25, hf⟩ := x_bind hf
                obtain ⟨r_23, er_23, hf⟩ := x_bind hf
                refine sh_inv (as := [xrv r_2.1]) (z := (some (xrv r_23.1), r_23.2)) i121_119 v121_162 (Or.inl ⟨by decide, rfl⟩) m91 rfl (Nat.le_of_ble_eq_true rfl) eu_25 (fn91_call (by omega) er_23) ?_
                obtain ⟨r_24, er_24, hf⟩ := x_bind hf
                refine ev_sta (as := [xrv r_23.1]) (z := (some (.int r_24.1), r_24.2)) i121_122 v121_146 (Or.inl rfl) m134 rfl (Nat.le_of_ble_eq_true rfl) (fn134_call (by omega) er_24) ?_
                obtain rfl := Option.some.inj hf
                exact sh_iret i121_125 m121 rfl rfl
              · replace hf := x_neg c_21 hf
                by_cases c_26 : x2 = 6
                · replace hf := x_pos c_26 hf
                  refine sh_tswC (c := 6) (t := 126) i121_23 (show (x2).toInt = 6 by rw [c_26]; rfl) (by decide) (by decide) rfl rfl ?_
                  refine sh_aload (i' := 4) (n := 2) i121_126 (Or.inl rfl) rfl ?_
                  refine sh_nnul (t := 135) i121_128 rfl (fun c_27 => ?_) (fun c_27 => ?_)
                  · replace hf := x_pos c_27 hf
                    refine ev_do i121_131 rfl ?_
                    refine sh_goto (t := 140) i121_132 rfl ?_
                    exact j121_140_ok hd hf
                  · replace hf := x_neg c_27 hf
                    refine sh_aload (i' := 4) (n := 2) i121_135 (Or.inl rfl) rfl ?_
                    obtain ⟨v_28, ev_28, hf⟩ := x_bind hf
                    refine sh_getI i121_137 f121_135 ev_28 ?_
                    exact j121_140_ok hd hf
                · replace hf := x_neg c_26 hf
                  by_cases c_29 : x2 = 7
                  · replace hf := x_pos c_29 hf
                    refine sh_tswC (c := 7) (t := 141) i121_23 (show (x2).toInt = 7 by rw [c_29]; rfl) (by decide) (by decide) rfl rfl ?_
                    refine sh_aload (i' := 4) (n := 2) i121_141 (Or.inl rfl) rfl ?_
                    refine sh_nnul (t := 150) i121_143 rfl (fun c_30 => ?_) (fun c_30 => ?_)
                    · replace hf := x_pos c_30 hf
                      refine ev_do i121_146 rfl ?_
                      refine sh_goto (t := 155) i121_147 rfl ?_
                      exact j121_155_ok hd hf
                    · replace hf := x_neg c_30 hf
                      refine sh_aload (i' := 4) (n := 2) i121_150 (Or.inl rfl) rfl ?_
                      obtain ⟨v_31, ev_31, hf⟩ := x_bind hf
                      refine sh_getI i121_152 f121_165 ev_31 ?_
                      exact j121_155_ok hd hf
                  · replace hf := x_neg c_29 hf
                    have nc_5 : (x2).toInt ≠ 0 := fun h9 => c_5 (Int32.toInt_inj.mp h9)
                    have nc_8 : (x2).toInt ≠ 1 := fun h9 => c_8 (Int32.toInt_inj.mp h9)
                    have nc_11 : (x2).toInt ≠ 2 := fun h9 => c_11 (Int32.toInt_inj.mp h9)
                    have nc_13 : (x2).toInt ≠ 3 := fun h9 => c_13 (Int32.toInt_inj.mp h9)
                    have nc_16 : (x2).toInt ≠ 4 := fun h9 => c_16 (Int32.toInt_inj.mp h9)
                    have nc_21 : (x2).toInt ≠ 5 := fun h9 => c_21 (Int32.toInt_inj.mp h9)
                    have nc_26 : (x2).toInt ≠ 6 := fun h9 => c_26 (Int32.toInt_inj.mp h9)
                    have nc_29 : (x2).toInt ≠ 7 := fun h9 => c_29 (Int32.toInt_inj.mp h9)
                    refine sh_tswD (t := 156) i121_23 (show (x2).toInt < 0 ∨ 7 < (x2).toInt by omega) rfl ?_
                    refine ev_do i121_156 rfl ?_
                    obtain rfl := Option.some.inj hf
                    exact sh_iret i121_158 m121 rfl rfl
end
section
def j133_21  (o0 : Option Nat) (x1 : Int32) (o2 : Option Nat) (s0 : Option Nat) (h : xH) : Option (Option Nat × xH) := some (s0, h)
theorem j133_21_ok {xs : List Int32} {d : Nat} (hd : 2 ≤ d) {o0 : Option Nat} {x1 : Int32} {o2 : Option Nat} {s0 : Option Nat} {h : xH} {r : (Option Nat × xH)} (hf : j133_21 o0 x1 o2 s0 h = some r) : xEv (xTa xs) d 133 (21, [xrv o0, .int x1, xrv o2], [xrv s0], h) (some (xrv r.1), r.2) := by
  unfold j133_21 at hf
  obtain rfl := Option.some.inj hf
  exact sh_aret i133_21 m133 rfl
def fn133 (o0 : Option Nat) (x1 : Int32) (h : xH) : Option (Option Nat × xH) := (xgR h o0 10 1).bind fun a_1 => (xcv h a_1 8).bind fun _ => (fn83 a_1 x1 h).bind fun r_2 => (if r_2.1 = none then j133_21 o0 x1 r_2.1 none r_2.2 else (xcv r_2.2 r_2.1 2).bind fun _ => (fn14 r_2.1 r_2.2).bind fun r_4 => j133_21 o0 x1 r_2.1 r_4.1 r_4.2)
theorem fn133_call {xs : List Int32} {d : Nat} (hd : 3 ≤ d) {o0 : Option Nat} {x1 : Int32} {h : xH} {r : (Option Nat × xH)} (hf : fn133 o0 x1 h = some r) : xCall (xTa xs) d 133 [xrv o0, .int x1] h (some (xrv r.1), r.2) := by
  obtain ⟨d, rfl⟩ : ∃ d2, d = d2 + 1 := ⟨d - 1, by omega⟩
  replace hd : 2 ≤ d := by omega
  refine call_of2 (fl := [xrv o0, .int x1]) (Ls := [xrv o0, .int x1, .float 0]) m133 (by simp [xfl, xrv_cat, xc_i, xc_j, xc_a, xc_f]) (Nat.le_of_ble_eq_true rfl) rfl ?_
  unfold fn133 at hf
  refine sh_aload (i' := 0) (n := 1) i133_0 (Or.inr ⟨rfl, by decide⟩) rfl ?_
  obtain ⟨a_1, ea_1, hf⟩ := x_bind hf
  refine sh_getR i133_1 f133_21 ea_1 ?_
  refine ev_do i133_4 rfl ?_
  obtain ⟨_, eu_6, hf⟩ := x_bind hf
  obtain ⟨r_2, er_2, hf⟩ := x_bind hf
  refine sh_inv (as := [.int x1]) (z := (some (xrv r_2.1), r_2.2)) i133_5 v133_93 (Or.inl ⟨by decide, rfl⟩) m83 rfl (Nat.le_of_ble_eq_true rfl) eu_6 (fn83_call (by omega) er_2) ?_
  refine sh_astore (i' := 2) (n := 1) i133_8 (Or.inr ⟨rfl, by decide⟩) (xokst_of (Nat.le_of_ble_eq_true rfl) rfl) ?_
  refine sh_aload (i' := 2) (n := 1) i133_9 (Or.inr ⟨rfl, by decide⟩) rfl ?_
  refine sh_nnul (t := 17) i133_10 rfl (fun c_3 => ?_) (fun c_3 => ?_)
  · replace hf := x_pos c_3 hf
    refine sh_cnull i133_13 ?_
    refine sh_goto (t := 21) i133_14 rfl ?_
    exact j133_21_ok hd hf
  · replace hf := x_neg c_3 hf
    refine sh_aload (i' := 2) (n := 1) i133_17 (Or.inr ⟨rfl, by decide⟩) rfl ?_
    obtain ⟨_, eu_5, hf⟩ := x_bind hf
    obtain ⟨r_4, er_4, hf⟩ := x_bind hf
    refine sh_inv (as := []) (z := (some (xrv r_4.1), r_4.2)) i133_18 v133_138 (Or.inl ⟨by decide, rfl⟩) m14 rfl (Nat.le_of_ble_eq_true rfl) eu_5 (fn14_call (by omega) er_4) ?_
    exact j133_21_ok hd hf
end
section
def j122_22  (o0 : Option Nat) (x1 : Int32) (x2 : Int32) (x3 : Int32) (o4 : Option Nat) (s0 : Option Nat) (h : xH) : Option (Int32 × xH) := (if s0 = none then some ((-9), h) else (if x3 = 0 then (xgI h s0 0 1).bind fun v_3 => some (v_3, h) else (if x3 = 1 then (xgI h s0 0 3).bind fun v_5 => some (v_5, h) else (if x3 = 2 then (xgI h s0 0 5).bind fun v_7 => some (v_7, h) else (if x3 = 3 then (xgI h s0 0 2).bind fun v_9 => some (v_9, h) else some ((-9), h))))))
theorem j122_22_ok {xs : List Int32} {d : Nat} (hd : 3 ≤ d) {u5 : Value} {o0 : Option Nat} {x1 : Int32} {x2 : Int32} {x3 : Int32} {o4 : Option Nat} {s0 : Option Nat} {h : xH} {r : (Int32 × xH)} (hu5 : u5.category = 1) (hf : j122_22 o0 x1 x2 x3 o4 s0 h = some r) : xEv (xTa xs) d 122 (22, [xrv o0, .int x1, .int x2, .int x3, xrv o4, u5], [xrv s0], h) (some (.int r.1), r.2) := by
  unfold j122_22 at hf
  refine sh_astore (i' := 5) (n := 2) i122_22 (Or.inl rfl) (xokst_of (Nat.le_of_ble_eq_true rfl) (xrv_cat (o4))) ?_
  refine sh_aload (i' := 5) (n := 2) i122_24 (Or.inl rfl) rfl ?_
  refine sh_nnul (t := 32) i122_26 rfl (fun c_1 => ?_) (fun c_1 => ?_)
  · replace hf := x_pos c_1 hf
    refine ev_do i122_29 rfl ?_
    obtain rfl := Option.some.inj hf
    exact sh_iret i122_31 m122 rfl rfl
  · replace hf := x_neg c_1 hf
    refine ev_do i122_32 rfl ?_
    by_cases c_2 : x3 = 0
    · replace hf := x_pos c_2 hf
      refine sh_tswC (c := 0) (t := 64) i122_33 (show (x3).toInt = 0 by rw [c_2]; rfl) (by decide) (by decide) rfl rfl ?_
      refine sh_aload (i' := 5) (n := 2) i122_64 (Or.inl rfl) rfl ?_
      obtain ⟨v_3, ev_3, hf⟩ := x_bind hf
      refine sh_getI i122_66 f122_176 ev_3 ?_
      obtain rfl := Option.some.inj hf
      exact sh_iret i122_69 m122 rfl rfl
    · replace hf := x_neg c_2 hf
      by_cases c_4 : x3 = 1
      · replace hf := x_pos c_4 hf
        refine sh_tswC (c := 1) (t := 70) i122_33 (show (x3).toInt = 1 by rw [c_4]; rfl) (by decide) (by decide) rfl rfl ?_
        refine sh_aload (i' := 5) (n := 2) i122_70 (Or.inl rfl) rfl ?_
        obtain ⟨v_5, ev_5, hf⟩ := x_bind hf
        refine sh_getI i122_72 f122_181 ev_5 ?_
        obtain rfl := Option.some.inj hf
        exact sh_iret i122_75 m122 rfl rfl
      · replace hf := x_neg c_4 hf
        by_cases c_6 : x3 = 2
        · replace hf := x_pos c_6 hf
          refine sh_tswC (c := 2) (t := 76) i122_33 (show (x3).toInt = 2 by rw [c_6]; rfl) (by decide) (by decide) rfl rfl ?_
          refine sh_aload (i' := 5) (n := 2) i122_76 (Or.inl rfl) rfl ?_
          obtain ⟨v_7, ev_7, hf⟩ := x_bind hf
          refine sh_getI i122_78 f122_184 ev_7 ?_
          obtain rfl := Option.some.inj hf
          exact sh_iret i122_81 m122 rfl rfl
        · replace hf := x_neg c_6 hf
          by_cases c_8 : x3 = 3
          · replace hf := x_pos c_8 hf
            refine sh_tswC (c := 3) (t := 82) i122_33 (show (x3).toInt = 3 by rw [c_8]; rfl) (by decide) (by decide) rfl rfl ?_
            refine sh_aload (i' := 5) (n := 2) i122_82 (Or.inl rfl) rfl ?_
            obtain ⟨v_9, ev_9, hf⟩ := x_bind hf
            refine sh_getI i122_84 f122_185 ev_9 ?_
            obtain rfl := Option.some.inj hf
            exact sh_iret i122_87 m122 rfl rfl
          · replace hf := x_neg c_8 hf
            have nc_2 : (x3).toInt ≠ 0 := fun h9 => c_2 (Int32.toInt_inj.mp h9)
            have nc_4 : (x3).toInt ≠ 1 := fun h9 => c_4 (Int32.toInt_inj.mp h9)
            have nc_6 : (x3).toInt ≠ 2 := fun h9 => c_6 (Int32.toInt_inj.mp h9)
            have nc_8 : (x3).toInt ≠ 3 := fun h9 => c_8 (Int32.toInt_inj.mp h9)
            refine sh_tswD (t := 88) i122_33 (show (x3).toInt < 0 ∨ 3 < (x3).toInt by omega) rfl ?_
            refine ev_do i122_88 rfl ?_
            obtain rfl := Option.some.inj hf
            exact sh_iret i122_90 m122 rfl rfl
def fn122 (o0 : Option Nat) (x1 : Int32) (x2 : Int32) (x3 : Int32) (h : xH) : Option (Int32 × xH) := (xcv h o0 10).bind fun _ => (fn133 o0 x1 h).bind fun r_1 => (if r_1.1 = none then j122_22 o0 x1 x2 x3 r_1.1 none r_1.2 else (xcv r_1.2 r_1.1 1).bind fun _ => (fn5 r_1.1 x2 r_1.2).bind fun r_3 => j122_22 o0 x1 x2 x3 r_1.1 r_3.1 r_3.2)
theorem fn122_call {xs : List Int32} {d : Nat} (hd : 4 ≤ d) {o0 : Option Nat} {x1 : Int32} {x2 : Int32} {x3 : Int32} {h : xH} {r : (Int32 × xH)} (hf : fn122 o0 x1 x2 x3 h = some r) : xCall (xTa xs) d 122 [xrv o0, .int x1, .int x2, .int x3] h (some (.int r.1), r.2) := by
  obtain ⟨d, rfl⟩ : ∃ d2, d = d2 + 1 := ⟨d - 1, by omega⟩
  replace hd : 3 ≤ d := by omega
  refine call_of2 (fl := [xrv o0, .int x1, .int x2, .int x3]) (Ls := [xrv o0, .int x1, .int x2, .int x3, .float 0, .float 0]) m122 (by simp [xfl, xrv_cat, xc_i, xc_j, xc_a, xc_f]) (Nat.le_of_ble_eq_true rfl) rfl ?_
  unfold fn122 at hf
  refine sh_aload (i' := 0) (n := 1) i122_0 (Or.inr ⟨rfl, by decide⟩) rfl ?_
  refine ev_do i122_1 rfl ?_
  obtain ⟨_, eu_5, hf⟩ := x_bind hf
  obtain ⟨r_1, er_1, hf⟩ := x_bind hf
  refine sh_inv (as := [.int x1]) (z := (some (xrv r_1.1), r_1.2)) i122_2 v122_168 (Or.inl ⟨by decide, rfl⟩) m133 rfl (Nat.le_of_ble_eq_true rfl) eu_5 (fn133_call (by omega) er_1) ?_
  refine sh_astore (i' := 4) (n := 2) i122_5 (Or.inl rfl) (xokst_of (Nat.le_of_ble_eq_true rfl) rfl) ?_
  refine sh_aload (i' := 4) (n := 2) i122_7 (Or.inl rfl) rfl ?_
  refine sh_nnul (t := 16) i122_9 rfl (fun c_2 => ?_) (fun c_2 => ?_)
  · replace hf := x_pos c_2 hf
    refine sh_cnull i122_12 ?_
    refine sh_goto (t := 22) i122_13 rfl ?_
    exact j122_22_ok hd rfl hf
  · replace hf := x_neg c_2 hf
    refine sh_aload (i' := 4) (n := 2) i122_16 (Or.inl rfl) rfl ?_
    refine ev_do i122_18 rfl ?_
    obtain ⟨_, eu_4, hf⟩ := x_bind hf
    obtain ⟨r_3, er_3, hf⟩ := x_bind hf
    refine sh_inv (as := [.int x2]) (z := (some (xrv r_3.1), r_3.2)) i122_19 v122_172 (Or.inl ⟨by decide, rfl⟩) m5 rfl (Nat.le_of_ble_eq_true rfl) eu_4 (fn5_call (by omega) er_3) ?_
    exact j122_22_ok hd rfl hf
end
