section
def j28_119  (o0 : Option Nat) (o1 : Option Nat) (o2 : Option Nat) (x3 : Int32) (x4 : Int32) (x5 : Int32) (h : xH) : Option xH := (xcv h o0 3).bind fun _ => (fn39 o0 o1 h).bind fun h_1 => some h_1
theorem j28_119_ok {xs : List Int32} {d : Nat} (hd : 5 ≤ d) {o0 : Option Nat} {o1 : Option Nat} {o2 : Option Nat} {x3 : Int32} {x4 : Int32} {x5 : Int32} {h : xH} {r : xH} (hf : j28_119 o0 o1 o2 x3 x4 x5 h = some r) : xEv (xTa xs) d 28 (119, [xrv o0, xrv o1, xrv o2, .int x3, .int x4, .int x5], [], h) (none, r) := by
  unfold j28_119 at hf
  refine sh_aload (i' := 0) (n := 1) i28_119 (Or.inr ⟨rfl, by decide⟩) rfl ?_
  refine sh_aload (i' := 1) (n := 1) i28_120 (Or.inr ⟨rfl, by decide⟩) rfl ?_
  obtain ⟨_, eu_2, hf⟩ := x_bind hf
  obtain ⟨h_1, eh_1, hf⟩ := x_bind hf
  refine sh_inv (as := [xrv o1]) (z := (none, h_1)) i28_121 v28_169 (Or.inl ⟨by decide, rfl⟩) m39 rfl (Nat.le_of_ble_eq_true rfl) eu_2 (fn39_call (by omega) eh_1) ?_
  obtain rfl := Option.some.inj hf
  exact sh_vret i28_124 m28 rfl
def j28_101  (o0 : Option Nat) (o1 : Option Nat) (o2 : Option Nat) (x3 : Int32) (x4 : Int32) (x5 : Int32) (h : xH) : Option xH := (if x4 = 0 then j28_119 o0 o1 o2 x3 x4 x5 h else (xgI h o0 3 4).bind fun v_2 => (if v_2 ≤ 0 then j28_119 o0 o1 o2 x3 x4 x5 h else (xcv h o1 5).bind fun _ => (fn52 o1 32 h).bind fun h_4 => j28_119 o0 o1 o2 x3 x4 x5 h_4))
theorem j28_101_ok {xs : List Int32} {d : Nat} (hd : 5 ≤ d) {o0 : Option Nat} {o1 : Option Nat} {o2 : Option Nat} {x3 : Int32} {x4 : Int32} {x5 : Int32} {h : xH} {r : xH} (hf : j28_101 o0 o1 o2 x3 x4 x5 h = some r) : xEv (xTa xs) d 28 (101, [xrv o0, xrv o1, xrv o2, .int x3, .int x4, .int x5], [], h) (none, r) := by
  unfold j28_101 at hf
  refine ev_do i28_101 rfl ?_
  refine ev_if (t := 119) i28_103 rfl (fun c_1 => ?_) (fun c_1 => ?_)
  · replace hf := x_pos (show x4 = 0 from c_1) hf
    exact j28_119_ok hd hf
  · replace hf := x_neg (show ¬ x4 = 0 from c_1) hf
    refine sh_aload (i' := 0) (n := 1) i28_106 (Or.inr ⟨rfl, by decide⟩) rfl ?_
    obtain ⟨v_2, ev_2, hf⟩ := x_bind hf
    refine sh_getI i28_107 f28_166 ev_2 ?_
    refine ev_if (t := 119) i28_110 rfl (fun c_3 => ?_) (fun c_3 => ?_)
    · replace hf := x_pos (show v_2 ≤ 0 from c_3) hf
      exact j28_119_ok hd hf
    · replace hf := x_neg (show ¬ v_2 ≤ 0 from c_3) hf
      refine sh_aload (i' := 1) (n := 1) i28_113 (Or.inr ⟨rfl, by decide⟩) rfl ?_
      refine ev_do i28_114 rfl ?_
      obtain ⟨_, eu_5, hf⟩ := x_bind hf
      obtain ⟨h_4, eh_4, hf⟩ := x_bind hf
      refine sh_inv (as := [.int 32]) (z := (none, h_4)) i28_116 v28_138 (Or.inl ⟨by decide, rfl⟩) m52 rfl (Nat.le_of_ble_eq_true rfl) eu_5 (fn52_call (by omega) eh_4) ?_
      exact j28_119_ok hd hf
def j28_84  (o0 : Option Nat) (o1 : Option Nat) (o2 : Option Nat) (x3 : Int32) (x4 : Int32) (x5 : Int32) (h : xH) : Option xH := (if x4 = 0 then j28_101 o0 o1 o2 x3 x4 x5 h else (xcv h o1 5).bind fun _ => (fn53 o1 x5 h).bind fun h_2 => (xcv h_2 o1 5).bind fun _ => (fn52 o1 45 h_2).bind fun h_3 => j28_101 o0 o1 o2 x3 x4 x5 h_3)
theorem j28_84_ok {xs : List Int32} {d : Nat} (hd : 5 ≤ d) {o0 : Option Nat} {o1 : Option Nat} {o2 : Option Nat} {x3 : Int32} {x4 : Int32} {x5 : Int32} {h : xH} {r : xH} (hf : j28_84 o0 o1 o2 x3 x4 x5 h = some r) : xEv (xTa xs) d 28 (84, [xrv o0, xrv o1, xrv o2, .int x3, .int x4, .int x5], [], h) (none, r) := by
  unfold j28_84 at hf
  refine ev_do i28_84 rfl ?_
  refine ev_if (t := 101) i28_86 rfl (fun c_1 => ?_) (fun c_1 => ?_)
  · replace hf := x_pos (show x4 = 0 from c_1) hf
    exact j28_101_ok hd hf
  · replace hf := x_neg (show ¬ x4 = 0 from c_1) hf
    refine sh_aload (i' := 1) (n := 1) i28_89 (Or.inr ⟨rfl, by decide⟩) rfl ?_
    refine ev_do i28_90 rfl ?_
    obtain ⟨_, eu_5, hf⟩ := x_bind hf
    obtain ⟨h_2, eh_2, hf⟩ := x_bind hf
    refine sh_inv (as := [.int x5]) (z := (none, h_2)) i28_92 v28_163 (Or.inl ⟨by decide, rfl⟩) m53 rfl (Nat.le_of_ble_eq_true rfl) eu_5 (fn53_call (by omega) eh_2) ?_
    refine sh_aload (i' := 1) (n := 1) i28_95 (Or.inr ⟨rfl, by decide⟩) rfl ?_
    refine ev_do i28_96 rfl ?_
    obtain ⟨_, eu_4, hf⟩ := x_bind hf
    obtain ⟨h_3, eh_3, hf⟩ := x_bind hf
    refine sh_inv (as := [.int 45]) (z := (none, h_3)) i28_98 v28_138 (Or.inl ⟨by decide, rfl⟩) m52 rfl (Nat.le_of_ble_eq_true rfl) eu_4 (fn52_call (by omega) eh_3) ?_
    exact j28_101_ok hd hf
def j28_65  (o0 : Option Nat) (o1 : Option Nat) (o2 : Option Nat) (x3 : Int32) (x4 : Int32) (x5 : Int32) (s0 : Option Nat) (s1 : Int32) (h : xH) : Option xH := (xpF h s0 3 9 .int (.int s1)).bind fun h_1 => (if x3 = 1 then (xcv h_1 o0 3).bind fun _ => (fn38 o0 h_1).bind fun h_3 => j28_84 o0 o1 o2 x3 x4 x5 h_3 else (xcv h_1 o0 3).bind fun _ => (fn37 o0 h_1).bind fun h_5 => j28_84 o0 o1 o2 x3 x4 x5 h_5)
theorem j28_65_ok {xs : List Int32} {d : Nat} (hd : 5 ≤ d) {o0 : Option Nat} {o1 : Option Nat} {o2 : Option Nat} {x3 : Int32} {x4 : Int32} {x5 : Int32} {s0 : Option Nat} {s1 : Int32} {h : xH} {r : xH} (hf : j28_65 o0 o1 o2 x3 x4 x5 s0 s1 h = some r) : xEv (xTa xs) d 28 (65, [xrv o0, xrv o1, xrv o2, .int x3, .int x4, .int x5], [.int s1, xrv s0], h) (none, r) := by
  unfold j28_65 at hf
  obtain ⟨h_1, eh_1, hf⟩ := x_bind hf
  refine sh_put i28_65 f28_154 (by decide) rfl eh_1 ?_
  refine ev_do i28_68 rfl ?_
  refine ev_do i28_69 rfl ?_
  refine ev_icmp (t := 80) i28_70 rfl (fun c_2 => ?_) (fun c_2 => ?_)
  · replace hf := x_neg (show ¬ x3 = 1 from c_2) hf
    refine sh_aload (i' := 0) (n := 1) i28_80 (Or.inr ⟨rfl, by decide⟩) rfl ?_
    obtain ⟨_, eu_6, hf⟩ := x_bind hf
    obtain ⟨h_5, eh_5, hf⟩ := x_bind hf
    refine sh_inv (as := []) (z := (none, h_5)) i28_81 v28_160 (Or.inl ⟨by decide, rfl⟩) m37 rfl (Nat.le_of_ble_eq_true rfl) eu_6 (fn37_call (by omega) eh_5) ?_
    exact j28_84_ok hd hf
  · replace hf := x_pos (show x3 = 1 from Decidable.byContradiction (fun h9 => c_2 h9)) hf
    refine sh_aload (i' := 0) (n := 1) i28_73 (Or.inr ⟨rfl, by decide⟩) rfl ?_
    obtain ⟨_, eu_4, hf⟩ := x_bind hf
    obtain ⟨h_3, eh_3, hf⟩ := x_bind hf
    refine sh_inv (as := []) (z := (none, h_3)) i28_74 v28_157 (Or.inl ⟨by decide, rfl⟩) m38 rfl (Nat.le_of_ble_eq_true rfl) eu_4 (fn38_call (by omega) eh_3) ?_
    refine sh_goto (t := 84) i28_77 rfl ?_
    exact j28_84_ok hd hf
def j28_43  (o0 : Option Nat) (o1 : Option Nat) (o2 : Option Nat) (x3 : Int32) (x4 : Int32) (x5 : Int32) (s0 : Option Nat) (s1 : Int32) (h : xH) : Option xH := (xpF h s0 3 8 .int (.int s1)).bind fun h_1 => (xgI h_1 o2 0 1).bind fun v_2 => (fn138 v_2 h_1).bind fun r_3 => (if r_3.1 = 0 then (xgI r_3.2 o0 3 8).bind fun v_5 => j28_65 o0 o1 o2 x3 x4 x5 o0 v_5 r_3.2 else j28_65 o0 o1 o2 x3 x4 x5 o0 4 r_3.2)
theorem j28_43_ok {xs : List Int32} {d : Nat} (hd : 5 ≤ d) {o0 : Option Nat} {o1 : Option Nat} {o2 : Option Nat} {x3 : Int32} {x4 : Int32} {x5 : Int32} {s0 : Option Nat} {s1 : Int32} {h : xH} {r : xH} (hf : j28_43 o0 o1 o2 x3 x4 x5 s0 s1 h = some r) : xEv (xTa xs) d 28 (43, [xrv o0, xrv o1, xrv o2, .int x3, .int x4, .int x5], [.int s1, xrv s0], h) (none, r) := by
  unfold j28_43 at hf
  obtain ⟨h_1, eh_1, hf⟩ := x_bind hf
  refine sh_put i28_43 f28_151 (by decide) rfl eh_1 ?_
  refine sh_aload (i' := 0) (n := 1) i28_46 (Or.inr ⟨rfl, by decide⟩) rfl ?_
  refine sh_aload (i' := 2) (n := 1) i28_47 (Or.inr ⟨rfl, by decide⟩) rfl ?_
  obtain ⟨v_2, ev_2, hf⟩ := x_bind hf
  refine sh_getI i28_48 f28_55 ev_2 ?_
  obtain ⟨r_3, er_3, hf⟩ := x_bind hf
  refine ev_sta (as := [.int v_2]) (z := (some (.int r_3.1), r_3.2)) i28_51 v28_68 (Or.inr rfl) m138 rfl (by simp [xcat, xrv_cat, xc_i, xc_j, xc_a, xc_f]) (fn138_call (by omega) er_3) ?_
  refine ev_if (t := 61) i28_54 rfl (fun c_4 => ?_) (fun c_4 => ?_)
  · replace hf := x_pos (show r_3.1 = 0 from c_4) hf
    refine sh_aload (i' := 0) (n := 1) i28_61 (Or.inr ⟨rfl, by decide⟩) rfl ?_
    obtain ⟨v_5, ev_5, hf⟩ := x_bind hf
    refine sh_getI i28_62 f28_151 ev_5 ?_
    exact j28_65_ok hd hf
  · replace hf := x_neg (show ¬ r_3.1 = 0 from c_4) hf
    refine ev_do i28_57 rfl ?_
    refine sh_goto (t := 65) i28_58 rfl ?_
    exact j28_65_ok hd hf
def j28_19  (o0 : Option Nat) (o1 : Option Nat) (o2 : Option Nat) (x3 : Int32) (s0 : Int32) (h : xH) : Option xH := (xgI h o2 0 3).bind fun v_1 => (if s0 = 0 then j28_43 o0 o1 o2 x3 s0 (2 * v_1) o0 0 h else j28_43 o0 o1 o2 x3 s0 (2 * v_1) o0 ((2 * v_1) + 2) h)
theorem j28_19_ok {xs : List Int32} {d : Nat} (hd : 5 ≤ d) {u4 : Value} {u5 : Value} {o0 : Option Nat} {o1 : Option Nat} {o2 : Option Nat} {x3 : Int32} {s0 : Int32} {h : xH} {r : xH} (hu4 : u4.category = 1) (hu5 : u5.category = 1) (hf : j28_19 o0 o1 o2 x3 s0 h = some r) : xEv (xTa xs) d 28 (19, [xrv o0, xrv o1, xrv o2, .int x3, u4, u5], [.int s0], h) (none, r) := by
  unfold j28_19 at hf
  refine sh_istore (i' := 4) (n := 2) i28_19 (Or.inl rfl) (xokst_of (Nat.le_of_ble_eq_true rfl) rfl) ?_
  refine ev_do i28_21 rfl ?_
  refine sh_aload (i' := 2) (n := 1) i28_22 (Or.inr ⟨rfl, by decide⟩) rfl ?_
  obtain ⟨v_1, ev_1, hf⟩ := x_bind hf
  refine sh_getI i28_23 f28_148 ev_1 ?_
  refine ev_do i28_26 rfl ?_
  refine sh_istore (i' := 5) (n := 2) i28_27 (Or.inl rfl) (xokst_of (Nat.le_of_ble_eq_true rfl) rfl) ?_
  refine sh_aload (i' := 0) (n := 1) i28_29 (Or.inr ⟨rfl, by decide⟩) rfl ?_
  refine ev_do i28_30 rfl ?_
  refine ev_if (t := 42) i28_32 rfl (fun c_2 => ?_) (fun c_2 => ?_)
  · replace hf := x_pos (show s0 = 0 from c_2) hf
    refine ev_do i28_42 rfl ?_
    exact j28_43_ok hd hf
  · replace hf := x_neg (show ¬ s0 = 0 from c_2) hf
    refine ev_do i28_35 rfl ?_
    refine ev_do i28_37 rfl ?_
    refine ev_do i28_38 rfl ?_
    refine sh_goto (t := 43) i28_39 rfl ?_
    exact j28_43_ok hd hf
def fn28 (o0 : Option Nat) (o1 : Option Nat) (o2 : Option Nat) (x3 : Int32) (h : xH) : Option xH := (xcv h o0 3).bind fun _ => (fn29 o0 o1 o2 h).bind fun h_1 => (xgI h_1 o2 0 1).bind fun v_2 => (if v_2 = 1 then j28_19 o0 o1 o2 x3 1 h_1 else j28_19 o0 o1 o2 x3 0 h_1)
theorem fn28_call {xs : List Int32} {d : Nat} (hd : 6 ≤ d) {o0 : Option Nat} {o1 : Option Nat} {o2 : Option Nat} {x3 : Int32} {h : xH} {r : xH} (hf : fn28 o0 o1 o2 x3 h = some r) : xCall (xTa xs) d 28 [xrv o0, xrv o1, xrv o2, .int x3] h (none, r) := by
  obtain ⟨d, rfl⟩ : ∃ d2, d = d2 + 1 := ⟨d - 1, by omega⟩
  replace hd : 5 ≤ d := by omega
  refine call_of2 (fl := [xrv o0, xrv o1, xrv o2, .int x3]) (Ls := [xrv o0, xrv o1, xrv o2, .int x3, .float 0, .float 0]) m28 (by simp [xfl, xrv_cat, xc_i, xc_j, xc_a, xc_f]) (Nat.le_of_ble_eq_true rfl) rfl ?_
  unfold fn28 at hf
  refine sh_aload (i' := 0) (n := 1) i28_0 (Or.inr ⟨rfl, by decide⟩) rfl ?_
  refine sh_aload (i' := 1) (n := 1) i28_1 (Or.inr ⟨rfl, by decide⟩) rfl ?_
  refine sh_aload (i' := 2) (n := 1) i28_2 (Or.inr ⟨rfl, by decide⟩) rfl ?_
  obtain ⟨_, eu_4, hf⟩ := x_bind hf
  obtain ⟨h_1, eh_1, hf⟩ := x_bind hf
  refine sh_inv (as := [xrv o2, xrv o1]) (z := (none, h_1)) i28_3 v28_144 (Or.inl ⟨by decide, rfl⟩) m29 rfl (Nat.le_of_ble_eq_true rfl) eu_4 (fn29_call (by omega) eh_1) ?_
  refine sh_aload (i' := 2) (n := 1) i28_6 (Or.inr ⟨rfl, by decide⟩) rfl ?_
  obtain ⟨v_2, ev_2, hf⟩ := x_bind hf
  refine sh_getI i28_7 f28_55 ev_2 ?_
  refine ev_do i28_10 rfl ?_
  refine ev_icmp (t := 18) i28_11 rfl (fun c_3 => ?_) (fun c_3 => ?_)
  · replace hf := x_neg (show ¬ v_2 = 1 from c_3) hf
    refine ev_do i28_18 rfl ?_
    exact j28_19_ok hd rfl rfl hf
  · replace hf := x_pos (show v_2 = 1 from Decidable.byContradiction (fun h9 => c_3 h9)) hf
    refine ev_do i28_14 rfl ?_
    refine sh_goto (t := 19) i28_15 rfl ?_
    exact j28_19_ok hd rfl rfl hf
end
section
def fn51 (o0 : Option Nat) (h : xH) : Option xH := (xgR h o0 5 0).bind fun a_1 => (xcv h a_1 9).bind fun _ => (fn101 a_1 0 h).bind fun h_2 => (xpF h_2 o0 5 3 .int (.int 0)).bind fun h_3 => (xpF h_3 o0 5 4 .int (.int 0)).bind fun h_4 => (xpF h_4 o0 5 5 .int (.int 0)).bind fun h_5 => (xpF h_5 o0 5 6 .int (.int 0)).bind fun h_6 => (xpF h_6 o0 5 7 .int (.int 0)).bind fun h_7 => (xpF h_7 o0 5 8 .boolean (.int 0)).bind fun h_8 => some h_8
theorem fn51_call {xs : List Int32} {d : Nat} (hd : 3 ≤ d) {o0 : Option Nat} {h : xH} {r : xH} (hf : fn51 o0 h = some r) : xCall (xTa xs) d 51 [xrv o0] h (none, r) := by
  obtain ⟨d, rfl⟩ : ∃ d2, d = d2 + 1 := ⟨d - 1, by omega⟩
  replace hd : 2 ≤ d := by omega
  refine call_of2 (fl := [xrv o0]) (Ls := [xrv o0]) m51 (by simp [xfl, xrv_cat, xc_i, xc_j, xc_a, xc_f]) (Nat.le_of_ble_eq_true rfl) rfl ?_
  unfold fn51 at hf
  refine sh_aload (i' := 0) (n := 1) i51_0 (Or.inr ⟨rfl, by decide⟩) rfl ?_
  obtain ⟨a_1, ea_1, hf⟩ := x_bind hf
  refine sh_getR i51_1 f51_14 ea_1 ?_
  refine ev_do i51_4 rfl ?_
  obtain ⟨_, eu_9, hf⟩ := x_bind hf
  obtain ⟨h_2, eh_2, hf⟩ := x_bind hf
  refine sh_inv (as := [.int 0]) (z := (none, h_2)) i51_5 v51_30 (Or.inl ⟨by decide, rfl⟩) m101 rfl (Nat.le_of_ble_eq_true rfl) eu_9 (fn101_call (by omega) eh_2) ?_
  refine sh_aload (i' := 0) (n := 1) i51_8 (Or.inr ⟨rfl, by decide⟩) rfl ?_
  refine ev_do i51_9 rfl ?_
  obtain ⟨h_3, eh_3, hf⟩ := x_bind hf
  refine sh_put i51_10 f51_33 (by decide) rfl eh_3 ?_
  refine sh_aload (i' := 0) (n := 1) i51_13 (Or.inr ⟨rfl, by decide⟩) rfl ?_
  refine ev_do i51_14 rfl ?_
  obtain ⟨h_4, eh_4, hf⟩ := x_bind hf
  refine sh_put i51_15 f51_37 (by decide) rfl eh_4 ?_
  refine sh_aload (i' := 0) (n := 1) i51_18 (Or.inr ⟨rfl, by decide⟩) rfl ?_
  refine ev_do i51_19 rfl ?_
  obtain ⟨h_5, eh_5, hf⟩ := x_bind hf
  refine sh_put i51_20 f51_40 (by decide) rfl eh_5 ?_
  refine sh_aload (i' := 0) (n := 1) i51_23 (Or.inr ⟨rfl, by decide⟩) rfl ?_
  refine ev_do i51_24 rfl ?_
  obtain ⟨h_6, eh_6, hf⟩ := x_bind hf
  refine sh_put i51_25 f51_43 (by decide) rfl eh_6 ?_
  refine sh_aload (i' := 0) (n := 1) i51_28 (Or.inr ⟨rfl, by decide⟩) rfl ?_
  refine ev_do i51_29 rfl ?_
  obtain ⟨h_7, eh_7, hf⟩ := x_bind hf
  refine sh_put i51_30 f51_46 (by decide) rfl eh_7 ?_
  refine sh_aload (i' := 0) (n := 1) i51_33 (Or.inr ⟨rfl, by decide⟩) rfl ?_
  refine ev_do i51_34 rfl ?_
  obtain ⟨h_8, eh_8, hf⟩ := x_bind hf
  refine sh_put i51_35 f51_49 (by decide) rfl eh_8 ?_
  obtain rfl := Option.some.inj hf
  exact sh_vret i51_38 m51 rfl
end
section
def j24_95  (o0 : Option Nat) (o1 : Option Nat) (o2 : Option Nat) (x3 : Int32) (x4 : Int32) (o5 : Option Nat) (x6 : Int32) (h : xH) : Option xH := (xcv h o0 3).bind fun _ => (fn26 o0 o1 h).bind fun h_1 => some h_1
theorem j24_95_ok {xs : List Int32} {d : Nat} (hd : 6 ≤ d) {u7 : Value} {o0 : Option Nat} {o1 : Option Nat} {o2 : Option Nat} {x3 : Int32} {x4 : Int32} {o5 : Option Nat} {x6 : Int32} {h : xH} {r : xH} (hu7 : u7.category = 1) (hf : j24_95 o0 o1 o2 x3 x4 o5 x6 h = some r) : xEv (xTa xs) d 24 (95, [xrv o0, xrv o1, xrv o2, .int x3, .int x4, xrv o5, .int x6, u7], [], h) (none, r) := by
  unfold j24_95 at hf
  refine sh_aload (i' := 0) (n := 1) i24_95 (Or.inr ⟨rfl, by decide⟩) rfl ?_
  refine sh_aload (i' := 1) (n := 1) i24_96 (Or.inr ⟨rfl, by decide⟩) rfl ?_
  obtain ⟨_, eu_2, hf⟩ := x_bind hf
  obtain ⟨h_1, eh_1, hf⟩ := x_bind hf
  refine sh_inv (as := [xrv o1]) (z := (none, h_1)) i24_97 v24_110 (Or.inl ⟨by decide, rfl⟩) m26 rfl (Nat.le_of_ble_eq_true rfl) eu_2 (fn26_call (by omega) eh_1) ?_
  obtain rfl := Option.some.inj hf
  exact sh_vret i24_100 m24 rfl
def j24_89 (k24 : Option Nat → Option Nat → Option Nat → Int32 → Int32 → Option Nat → Int32 → xH → Option xH) (o0 : Option Nat) (o1 : Option Nat) (o2 : Option Nat) (x3 : Int32) (x4 : Int32) (o5 : Option Nat) (x6 : Int32) (o7 : Option Nat) (h : xH) : Option xH := k24 o0 o1 o2 x3 x4 o5 (x6 + 1) h
theorem j24_89_ok {xs : List Int32} {d : Nat} (hd : 6 ≤ d) {k24 : Option Nat → Option Nat → Option Nat → Int32 → Int32 → Option Nat → Int32 → xH → Option xH} (hk24 : ∀ {u7 : Value} {o0 : Option Nat} {o1 : Option Nat} {o2 : Option Nat} {x3 : Int32} {x4 : Int32} {o5 : Option Nat} {x6 : Int32} {h : xH} {r : xH}, u7.category = 1 → k24 o0 o1 o2 x3 x4 o5 x6 h = some r → xEv (xTa xs) d 24 (24, [xrv o0, xrv o1, xrv o2, .int x3, .int x4, xrv o5, .int x6, u7], [], h) (none, r)) {o0 : Option Nat} {o1 : Option Nat} {o2 : Option Nat} {x3 : Int32} {x4 : Int32} {o5 : Option Nat} {x6 : Int32} {o7 : Option Nat} {h : xH} {r : xH} (hf : j24_89 k24 o0 o1 o2 x3 x4 o5 x6 o7 h = some r) : xEv (xTa xs) d 24 (89, [xrv o0, xrv o1, xrv o2, .int x3, .int x4, xrv o5, .int x6, xrv o7], [], h) (none, r) := by
  unfold j24_89 at hf
  refine sh_inc (i' := 6) i24_89 rfl (xokst_of (Nat.le_of_ble_eq_true rfl) (xrv_cat (o5))) rfl ?_
  refine sh_goto (t := 24) i24_92 rfl ?_
  exact hk24 (xrv_cat (o7)) hf
def j24_76 (k24 : Option Nat → Option Nat → Option Nat → Int32 → Int32 → Option Nat → Int32 → xH → Option xH) (o0 : Option Nat) (o1 : Option Nat) (o2 : Option Nat) (x3 : Int32) (x4 : Int32) (o5 : Option Nat) (x6 : Int32) (o7 : Option Nat) (h : xH) : Option xH := (xcv h o0 3).bind fun _ => (fn28 o0 o1 o7 x4 h).bind fun h_1 => j24_89 k24 o0 o1 o2 x3 x4 o7 x6 o7 h_1
theorem j24_76_ok {xs : List Int32} {d : Nat} (hd : 6 ≤ d) {k24 : Option Nat → Option Nat → Option Nat → Int32 → Int32 → Option Nat → Int32 → xH → Option xH} (hk24 : ∀ {u7 : Value} {o0 : Option Nat} {o1 : Option Nat} {o2 : Option Nat} {x3 : Int32} {x4 : Int32} {o5 : Option Nat} {x6 : Int32} {h : xH} {r : xH}, u7.category = 1 → k24 o0 o1 o2 x3 x4 o5 x6 h = some r → xEv (xTa xs) d 24 (24, [xrv o0, xrv o1, xrv o2, .int x3, .int x4, xrv o5, .int x6, u7], [], h) (none, r)) {o0 : Option Nat} {o1 : Option Nat} {o2 : Option Nat} {x3 : Int32} {x4 : Int32} {o5 : Option Nat} {x6 : Int32} {o7 : Option Nat} {h : xH} {r : xH} (hf : j24_76 k24 o0 o1 o2 x3 x4 o5 x6 o7 h = some r) : xEv (xTa xs) d 24 (76, [xrv o0, xrv o1, xrv o2, .int x3, .int x4, xrv o5, .int x6, xrv o7], [], h) (none, r) := by
  unfold j24_76 at hf
  refine sh_aload (i' := 0) (n := 1) i24_76 (Or.inr ⟨rfl, by decide⟩) rfl ?_
  refine sh_aload (i' := 1) (n := 1) i24_77 (Or.inr ⟨rfl, by decide⟩) rfl ?_
  refine sh_aload (i' := 7) (n := 2) i24_78 (Or.inl rfl) rfl ?_
  refine ev_do i24_80 rfl ?_
  obtain ⟨_, eu_2, hf⟩ := x_bind hf
  obtain ⟨h_1, eh_1, hf⟩ := x_bind hf
  refine sh_inv (as := [.int x4, xrv o7, xrv o1]) (z := (none, h_1)) i24_82 v24_106 (Or.inl ⟨by decide, rfl⟩) m28 rfl (Nat.le_of_ble_eq_true rfl) eu_2 (fn28_call (by omega) eh_1) ?_
  refine sh_aload (i' := 7) (n := 2) i24_85 (Or.inl rfl) rfl ?_
  refine sh_astore (i' := 5) (n := 2) i24_87 (Or.inl rfl) (xokst_of (Nat.le_of_ble_eq_true rfl) rfl) ?_
  exact j24_89_ok hd hk24 hf
def l24_24  : Nat → Option Nat → Option Nat → Option Nat → Int32 → Int32 → Option Nat → Int32 → xH → Option xH
  | 0 => fun _ _ _ _ _ _ _ _ => none
  | n + 1 => fun o0 o1 o2 x3 x4 o5 x6 h => (xgI h o0 3 1).bind fun v_1 => (if v_1 ≤ x6 then j24_95 o0 o1 o2 x3 x4 o5 x6 h else (xgI h o1 5 8).bind fun v_3 => (if v_3 = 0 then (xgR h o0 3 0).bind fun a_5 => (xaR h a_5 x6).bind fun a_6 => (if a_6 = none then j24_89 (l24_24 n) o0 o1 o2 x3 x4 o5 x6 a_6 h else (xgR h a_6 0 0).bind fun a_8 => (if a_8 = none then j24_89 (l24_24 n) o0 o1 o2 x3 x4 o5 x6 a_6 h else (fn25 o5 a_6 h).bind fun r_10 => (if r_10.1 = 0 then j24_76 (l24_24 n) o0 o1 o2 x3 x4 o5 x6 a_6 r_10.2 else (xcv r_10.2 o1 5).bind fun _ => (fn56 o1 r_10.2).bind fun h_12 => j24_76 (l24_24 n) o0 o1 o2 x3 x4 o5 x6 a_6 h_12))) else j24_95 o0 o1 o2 x3 x4 o5 x6 h))
theorem l24_24_ok {xs : List Int32} {d : Nat} (hd : 6 ≤ d) : ∀ (n : Nat) {u7 : Value} {o0 : Option Nat} {o1 : Option Nat} {o2 : Option Nat} {x3 : Int32} {x4 : Int32} {o5 : Option Nat} {x6 : Int32} {h : xH} {r : xH} (hu7 : u7.category = 1), l24_24 n o0 o1 o2 x3 x4 o5 x6 h = some r → xEv (xTa xs) d 24 (24, [xrv o0, xrv o1, xrv o2, .int x3, .int x4, xrv o5, .int x6, u7], [], h) (none, r) := by
  intro n
  induction n with
  | zero => intros; rename_i hf; cases hf
  | succ n ih =>
    intro u7 o0 o1 o2 x3 x4 o5 x6 h r hu7 hf
    replace hf : ((xgI h o0 3 1).bind fun v_1 => (if v_1 ≤ x6 then j24_95 o0 o1 o2 x3 x4 o5 x6 h else (xgI h o1 5 8).bind fun v_3 => (if v_3 = 0 then (xgR h o0 3 0).bind fun a_5 => (xaR h a_5 x6).bind fun a_6 => (if a_6 = none then j24_89 (l24_24 n) o0 o1 o2 x3 x4 o5 x6 a_6 h else (xgR h a_6 0 0).bind fun a_8 => (if a_8 = none then j24_89 (l24_24 n) o0 o1 o2 x3 x4 o5 x6 a_6 h else (fn25 o5 a_6 h).bind fun r_10 => (if r_10.1 = 0 then j24_76 (l24_24 n) o0 o1 o2 x3 x4 o5 x6 a_6 r_10.2 else (xcv r_10.2 o1 5).bind fun _ => (fn56 o1 r_10.2).bind fun h_12 => j24_76 (l24_24 n) o0 o1 o2 x3 x4 o5 x6 a_6 h_12))) else j24_95 o0 o1 o2 x3 x4 o5 x6 h))) = some r := hf
    refine ev_do i24_24 rfl ?_
    refine sh_aload (i' := 0) (n := 1) i24_26 (Or.inr ⟨rfl, by decide⟩) rfl ?_
    obtain ⟨v_1, ev_1, hf⟩ := x_bind hf
    refine sh_getI i24_27 f24_36 ev_1 ?_
    refine ev_icmp (t := 95) i24_30 rfl (fun c_2 => ?_) (fun c_2 => ?_)
    · replace hf := x_pos (show v_1 ≤ x6 from c_2) hf
      exact j24_95_ok hd hu7 hf
    · replace hf := x_neg (show ¬ v_1 ≤ x6 from c_2) hf
      refine sh_aload (i' := 1) (n := 1) i24_33 (Or.inr ⟨rfl, by decide⟩) rfl ?_
      obtain ⟨v_3, ev_3, hf⟩ := x_bind hf
      refine sh_getI i24_34 f24_98 ev_3 ?_
      refine ev_if (t := 95) i24_37 rfl (fun c_4 => ?_) (fun c_4 => ?_)
      · replace hf := x_neg (show ¬ v_3 = 0 from c_4) hf
        exact j24_95_ok hd hu7 hf
      · replace hf := x_pos (show v_3 = 0 from Decidable.byContradiction (fun h9 => c_4 h9)) hf
        refine sh_aload (i' := 0) (n := 1) i24_40 (Or.inr ⟨rfl, by decide⟩) rfl ?_
        obtain ⟨a_5, ea_5, hf⟩ := x_bind hf
        refine sh_getR i24_41 f24_11 ea_5 ?_
        refine ev_do i24_44 rfl ?_
        obtain ⟨a_6, ea_6, hf⟩ := x_bind hf
        refine sh_aldR i24_46 ea_6 ?_
        refine sh_astore (i' := 7) (n := 2) i24_47 (Or.inl rfl) (xokst_of (Nat.le_of_ble_eq_true rfl) rfl) ?_
        refine sh_aload (i' := 7) (n := 2) i24_49 (Or.inl rfl) rfl ?_
        refine sh_null (t := 89) i24_51 rfl (fun c_7 => ?_) (fun c_7 => ?_)
        · replace hf := x_pos c_7 hf
          exact j24_89_ok hd ih hf
        · replace hf := x_neg c_7 hf
          refine sh_aload (i' := 7) (n := 2) i24_54 (Or.inl rfl) rfl ?_
          obtain ⟨a_8, ea_8, hf⟩ := x_bind hf
          refine sh_getR i24_56 f24_76 ea_8 ?_
          refine sh_null (t := 89) i24_59 rfl (fun c_9 => ?_) (fun c_9 => ?_)
          · replace hf := x_pos c_9 hf
            exact j24_89_ok hd ih hf
          · replace hf := x_neg c_9 hf
            refine sh_aload (i' := 5) (n := 2) i24_62 (Or.inl rfl) rfl ?_
            refine sh_aload (i' := 7) (n := 2) i24_64 (Or.inl rfl) rfl ?_
            obtain ⟨r_10, er_10, hf⟩ := x_bind hf
            refine ev_sta (as := [xrv a_6, xrv o5]) (z := (some (.int r_10.1), r_10.2)) i24_66 v24_102 (Or.inl rfl) m25 rfl (Nat.le_of_ble_eq_true rfl) (fn25_call (by omega) er_10) ?_
            refine ev_if (t := 76) i24_69 rfl (fun c_11 => ?_) (fun c_11 => ?_)
            · replace hf := x_pos (show r_10.1 = 0 from c_11) hf
              exact j24_76_ok hd ih hf
            · replace hf := x_neg (show ¬ r_10.1 = 0 from c_11) hf
              refine sh_aload (i' := 1) (n := 1) i24_72 (Or.inr ⟨rfl, by decide⟩) rfl ?_
              obtain ⟨_, eu_13, hf⟩ := x_bind hf
              obtain ⟨h_12, eh_12, hf⟩ := x_bind hf
              refine sh_inv (as := []) (z := (none, h_12)) i24_73 v24_95 (Or.inl ⟨by decide, rfl⟩) m56 rfl (Nat.le_of_ble_eq_true rfl) eu_13 (fn56_call (by omega) eh_12) ?_
              exact j24_76_ok hd ih hf
def fn24 (o0 : Option Nat) (o1 : Option Nat) (o2 : Option Nat) (x3 : Int32) (x4 : Int32) (h : xH) : Option xH := (xpF h o0 3 7 .int (.int x3)).bind fun h_1 => (xcv h_1 o1 5).bind fun _ => (fn51 o1 h_1).bind fun h_2 => (xcv h_2 o1 5).bind fun _ => (fn55 o1 o2 h_2).bind fun h_3 => (xcv h_3 o1 5).bind fun _ => (fn56 o1 h_3).bind fun h_4 => l24_24 xFuel o0 o1 o2 x3 x4 none 0 h_4
theorem fn24_call {xs : List Int32} {d : Nat} (hd : 7 ≤ d) {o0 : Option Nat} {o1 : Option Nat} {o2 : Option Nat} {x3 : Int32} {x4 : Int32} {h : xH} {r : xH} (hf : fn24 o0 o1 o2 x3 x4 h = some r) : xCall (xTa xs) d 24 [xrv o0, xrv o1, xrv o2, .int x3, .int x4] h (none, r) := by
  obtain ⟨d, rfl⟩ : ∃ d2, d = d2 + 1 := ⟨d - 1, by omega⟩
  replace hd : 6 ≤ d := by omega
  refine call_of2 (fl := [xrv o0, xrv o1, xrv o2, .int x3, .int x4]) (Ls := [xrv o0, xrv o1, xrv o2, .int x3, .int x4, .float 0, .float 0, .float 0]) m24 (by simp [xfl, xrv_cat, xc_i, xc_j, xc_a, xc_f]) (Nat.le_of_ble_eq_true rfl) rfl ?_
  unfold fn24 at hf
  refine sh_aload (i' := 0) (n := 1) i24_0 (Or.inr ⟨rfl, by decide⟩) rfl ?_
  refine ev_do i24_1 rfl ?_
  obtain ⟨h_1, eh_1, hf⟩ := x_bind hf
  refine sh_put i24_2 f24_83 (by decide) rfl eh_1 ?_
  refine sh_aload (i' := 1) (n := 1) i24_5 (Or.inr ⟨rfl, by decide⟩) rfl ?_
  obtain ⟨_, eu_7, hf⟩ := x_bind hf
  obtain ⟨h_2, eh_2, hf⟩ := x_bind hf
  refine sh_inv (as := []) (z := (none, h_2)) i24_6 v24_86 (Or.inl ⟨by decide, rfl⟩) m51 rfl (Nat.le_of_ble_eq_true rfl) eu_7 (fn51_call (by omega) eh_2) ?_
  refine sh_aload (i' := 1) (n := 1) i24_9 (Or.inr ⟨rfl, by decide⟩) rfl ?_
  refine sh_aload (i' := 2) (n := 1) i24_10 (Or.inr ⟨rfl, by decide⟩) rfl ?_
  obtain ⟨_, eu_6, hf⟩ := x_bind hf
  obtain ⟨h_3, eh_3, hf⟩ := x_bind hf
  refine sh_inv (as := [xrv o2]) (z := (none, h_3)) i24_11 v24_91 (Or.inl ⟨by decide, rfl⟩) m55 rfl (Nat.le_of_ble_eq_true rfl) eu_6 (fn55_call (by omega) eh_3) ?_
  refine sh_aload (i' := 1) (n := 1) i24_14 (Or.inr ⟨rfl, by decide⟩) rfl ?_
  obtain ⟨_, eu_5, hf⟩ := x_bind hf
  obtain ⟨h_4, eh_4, hf⟩ := x_bind hf
  refine sh_inv (as := []) (z := (none, h_4)) i24_15 v24_95 (Or.inl ⟨by decide, rfl⟩) m56 rfl (Nat.le_of_ble_eq_true rfl) eu_5 (fn56_call (by omega) eh_4) ?_
  refine sh_cnull i24_18 ?_
  refine sh_astore (i' := 5) (n := 2) i24_19 (Or.inl rfl) (xokst_of (Nat.le_of_ble_eq_true rfl) rfl) ?_
  refine ev_do i24_21 rfl ?_
  refine sh_istore (i' := 6) (n := 2) i24_22 (Or.inl rfl) (xokst_of (Nat.le_of_ble_eq_true rfl) (xrv_cat (none))) ?_
  exact l24_24_ok hd xFuel rfl hf
end
section
def fn40 (o0 : Option Nat) (h : xH) : Option xH := (o0).bind fun a_1 => (xnA h 13 (.int 0) 216).bind fun h_2 => (xpF h_2 o0 4 0 (.array .int) (xrv (some h.1))).bind fun h_3 => (xnA h_3 13 (.int 0) 216).bind fun h_4 => (xpF h_4 o0 4 1 (.array .int) (xrv (some h_3.1))).bind fun h_5 => some h_5
theorem fn40_call {xs : List Int32} {d : Nat} (hd : 2 ≤ d) {o0 : Option Nat} {h : xH} {r : xH} (hf : fn40 o0 h = some r) : xCall (xTa xs) d 40 [xrv o0] h (none, r) := by
  obtain ⟨d, rfl⟩ : ∃ d2, d = d2 + 1 := ⟨d - 1, by omega⟩
  replace hd : 1 ≤ d := by omega
  refine call_of2 (fl := [xrv o0]) (Ls := [xrv o0]) m40 (by simp [xfl, xrv_cat, xc_i, xc_j, xc_a, xc_f]) (Nat.le_of_ble_eq_true rfl) rfl ?_
  unfold fn40 at hf
  refine sh_aload (i' := 0) (n := 1) i40_0 (Or.inr ⟨rfl, by decide⟩) rfl ?_
  obtain ⟨a_1, ea_1, hf⟩ := x_bind hf
  refine sh_obj i40_1 v40_3 (Nat.le_of_ble_eq_true rfl) ea_1 ?_
  refine sh_aload (i' := 0) (n := 1) i40_4 (Or.inr ⟨rfl, by decide⟩) rfl ?_
  refine ev_do i40_5 rfl ?_
  obtain ⟨h_2, eh_2, hf⟩ := x_bind hf
  refine sh_newa (tg := 13) (n := 2) (v := (.int 0)) i40_8 (fun _ _ _ => rfl) eh_2 ?_
  obtain ⟨h_3, eh_3, hf⟩ := x_bind hf
  refine sh_put i40_10 f40_9 (by decide) rfl eh_3 ?_
  refine sh_aload (i' := 0) (n := 1) i40_13 (Or.inr ⟨rfl, by decide⟩) rfl ?_
  refine ev_do i40_14 rfl ?_
  obtain ⟨h_4, eh_4, hf⟩ := x_bind hf
  refine sh_newa (tg := 13) (n := 2) (v := (.int 0)) i40_17 (fun _ _ _ => rfl) eh_4 ?_
  obtain ⟨h_5, eh_5, hf⟩ := x_bind hf
  refine sh_put i40_19 f40_15 (by decide) rfl eh_5 ?_
  obtain rfl := Option.some.inj hf
  exact sh_vret i40_22 m40 rfl
end
section
def j41_54  (o0 : Option Nat) (x1 : Int32) (x2 : Int32) (h : xH) : Option xH := some h
theorem j41_54_ok {xs : List Int32} {d : Nat} (hd : 1 ≤ d) {o0 : Option Nat} {x1 : Int32} {x2 : Int32} {h : xH} {r : xH} (hf : j41_54 o0 x1 x2 h = some r) : xEv (xTa xs) d 41 (54, [xrv o0, .int x1, .int x2], [], h) (none, r) := by
  unfold j41_54 at hf
  obtain rfl := Option.some.inj hf
  exact sh_vret i41_54 m41 rfl
def fn41 (o0 : Option Nat) (x1 : Int32) (x2 : Int32) (h : xH) : Option xH := (xgI h o0 4 2).bind fun v_1 => (xgR h o0 4 0).bind fun a_2 => (xaN h a_2).bind fun v_3 => (if v_3 ≤ v_1 then j41_54 o0 x1 x2 h else (xgI h o0 4 2).bind fun v_5 => (xgR h o0 4 1).bind fun a_6 => (xaN h a_6).bind fun v_7 => (if v_7 ≤ v_5 then j41_54 o0 x1 x2 h else (xgR h o0 4 0).bind fun a_9 => (xgI h o0 4 2).bind fun v_10 => (xaS h 13 (fun x => x) a_9 v_10 x1).bind fun h_11 => (xgR h_11 o0 4 1).bind fun a_12 => (xgI h_11 o0 4 2).bind fun v_13 => (xaS h_11 13 (fun x => x) a_12 v_13 x2).bind fun h_14 => (xgI h_14 o0 4 2).bind fun v_15 => (xpF h_14 o0 4 2 .int (.int (v_15 + 1))).bind fun h_16 => j41_54 o0 x1 x2 h_16))
theorem fn41_call {xs : List Int32} {d : Nat} (hd : 2 ≤ d) {o0 : Option Nat} {x1 : Int32} {x2 : Int32} {h : xH} {r : xH} (hf : fn41 o0 x1 x2 h = some r) : xCall (xTa xs) d 41 [xrv o0, .int x1, .int x2] h (none, r) := by
  obtain ⟨d, rfl⟩ : ∃ d2, d = d2 + 1 := ⟨d - 1, by omega⟩
  replace hd : 1 ≤ d := by omega
  refine call_of2 (fl := [xrv o0, .int x1, .int x2]) (Ls := [xrv o0, .int x1, .int x2]) m41 (by simp [xfl, xrv_cat, xc_i, xc_j, xc_a, xc_f]) (Nat.le_of_ble_eq_true rfl) rfl ?_
  unfold fn41 at hf
  refine sh_aload (i' := 0) (n := 1) i41_0 (Or.inr ⟨rfl, by decide⟩) rfl ?_
  obtain ⟨v_1, ev_1, hf⟩ := x_bind hf
  refine sh_getI i41_1 f41_18 ev_1 ?_
  refine sh_aload (i' := 0) (n := 1) i41_4 (Or.inr ⟨rfl, by decide⟩) rfl ?_
  obtain ⟨a_2, ea_2, hf⟩ := x_bind hf
  refine sh_getR i41_5 f41_9 ea_2 ?_
  obtain ⟨v_3, ev_3, hf⟩ := x_bind hf
  refine sh_len i41_8 ev_3 ?_
  refine ev_icmp (t := 54) i41_9 rfl (fun c_4 => ?_) (fun c_4 => ?_)
  · replace hf := x_pos (show v_3 ≤ v_1 from c_4) hf
    exact j41_54_ok hd hf
  · replace hf := x_neg (show ¬ v_3 ≤ v_1 from c_4) hf
    refine sh_aload (i' := 0) (n := 1) i41_12 (Or.inr ⟨rfl, by decide⟩) rfl ?_
    obtain ⟨v_5, ev_5, hf⟩ := x_bind hf
    refine sh_getI i41_13 f41_18 ev_5 ?_
    refine sh_aload (i' := 0) (n := 1) i41_16 (Or.inr ⟨rfl, by decide⟩) rfl ?_
    obtain ⟨a_6, ea_6, hf⟩ := x_bind hf
    refine sh_getR i41_17 f41_15 ea_6 ?_
    obtain ⟨v_7, ev_7, hf⟩ := x_bind hf
    refine sh_len i41_20 ev_7 ?_
    refine ev_icmp (t := 54) i41_21 rfl (fun c_8 => ?_) (fun c_8 => ?_)
    · replace hf := x_pos (show v_7 ≤ v_5 from c_8) hf
      exact j41_54_ok hd hf
    · replace hf := x_neg (show ¬ v_7 ≤ v_5 from c_8) hf
      refine sh_aload (i' := 0) (n := 1) i41_24 (Or.inr ⟨rfl, by decide⟩) rfl ?_
      obtain ⟨a_9, ea_9, hf⟩ := x_bind hf
      refine sh_getR i41_25 f41_9 ea_9 ?_
      refine sh_aload (i' := 0) (n := 1) i41_28 (Or.inr ⟨rfl, by decide⟩) rfl ?_
      obtain ⟨v_10, ev_10, hf⟩ := x_bind hf
      refine sh_getI i41_29 f41_18 ev_10 ?_
      refine ev_do i41_32 rfl ?_
      obtain ⟨h_11, eh_11, hf⟩ := x_bind hf
      refine sh_ast (tg := 13) i41_33 (Or.inl ⟨rfl, rfl, rfl⟩) eh_11 ?_
      refine sh_aload (i' := 0) (n := 1) i41_34 (Or.inr ⟨rfl, by decide⟩) rfl ?_
      obtain ⟨a_12, ea_12, hf⟩ := x_bind hf
      refine sh_getR i41_35 f41_15 ea_12 ?_
      refine sh_aload (i' := 0) (n := 1) i41_38 (Or.inr ⟨rfl, by decide⟩) rfl ?_
      obtain ⟨v_13, ev_13, hf⟩ := x_bind hf
      refine sh_getI i41_39 f41_18 ev_13 ?_
      refine ev_do i41_42 rfl ?_
      obtain ⟨h_14, eh_14, hf⟩ := x_bind hf
      refine sh_ast (tg := 13) i41_43 (Or.inl ⟨rfl, rfl, rfl⟩) eh_14 ?_
      refine sh_aload (i' := 0) (n := 1) i41_44 (Or.inr ⟨rfl, by decide⟩) rfl ?_
      refine sh_dup i41_45 (xrv_cat (o0)) ?_
      obtain ⟨v_15, ev_15, hf⟩ := x_bind hf
      refine sh_getI i41_46 f41_18 ev_15 ?_
      refine ev_do i41_49 rfl ?_
      refine ev_do i41_50 rfl ?_
      obtain ⟨h_16, eh_16, hf⟩ := x_bind hf
      refine sh_put i41_51 f41_18 (by decide) rfl eh_16 ?_
      exact j41_54_ok hd hf
end
section
def j44_77 (k25 : Option Nat → Option Nat → Option Nat → Int32 → xH → Option xH) (o0 : Option Nat) (o1 : Option Nat) (o2 : Option Nat) (x3 : Int32) (o4 : Option Nat) (h : xH) : Option xH := k25 o0 o1 o2 (x3 + 1) h
theorem j44_77_ok {xs : List Int32} {d : Nat} (hd : 2 ≤ d) {k25 : Option Nat → Option Nat → Option Nat → Int32 → xH → Option xH} (hk25 : ∀ {u4 : Value} {o0 : Option Nat} {o1 : Option Nat} {o2 : Option Nat} {x3 : Int32} {h : xH} {r : xH}, u4.category = 1 → k25 o0 o1 o2 x3 h = some r → xEv (xTa xs) d 44 (25, [xrv o0, xrv o1, xrv o2, .int x3, u4], [], h) (none, r)) {o0 : Option Nat} {o1 : Option Nat} {o2 : Option Nat} {x3 : Int32} {o4 : Option Nat} {h : xH} {r : xH} (hf : j44_77 k25 o0 o1 o2 x3 o4 h = some r) : xEv (xTa xs) d 44 (77, [xrv o0, xrv o1, xrv o2, .int x3, xrv o4], [], h) (none, r) := by
  unfold j44_77 at hf
  refine sh_inc (i' := 3) i44_77 rfl (xokst_of (Nat.le_of_ble_eq_true rfl) (xrv_cat (o2))) rfl ?_
  refine sh_goto (t := 25) i44_80 rfl ?_
  exact hk25 (xrv_cat (o4)) hf
def l44_25  : Nat → Option Nat → Option Nat → Option Nat → Int32 → xH → Option xH
  | 0 => fun _ _ _ _ _ => none
  | n + 1 => fun o0 o1 o2 x3 h => (xgI h o2 0 5).bind fun v_1 => (if v_1 ≤ x3 then some h else (xgI h o2 0 4).bind fun v_3 => (xcv h o1 1).bind fun _ => (fn6 o1 (v_3 + x3) h).bind fun r_4 => (if r_4.1 = none then j44_77 (l44_25 n) o0 o1 o2 x3 r_4.1 r_4.2 else (xgI r_4.2 r_4.1 6 0).bind fun v_6 => (if v_6 = 2 then (xgR r_4.2 r_4.1 6 7).bind fun a_8 => (if a_8 = none then (xgI r_4.2 r_4.1 6 1).bind fun v_10 => (xcv r_4.2 o0 4).bind fun _ => (fn41 o0 2 v_10 r_4.2).bind fun h_11 => j44_77 (l44_25 n) o0 o1 o2 x3 r_4.1 h_11 else j44_77 (l44_25 n) o0 o1 o2 x3 r_4.1 r_4.2) else j44_77 (l44_25 n) o0 o1 o2 x3 r_4.1 r_4.2)))
theorem l44_25_ok {xs : List Int32} {d : Nat} (hd : 2 ≤ d) : ∀ (n : Nat) {u4 : Value} {o0 : Option Nat} {o1 : Option Nat} {o2 : Option Nat} {x3 : Int32} {h : xH} {r : xH} (hu4 : u4.category = 1), l44_25 n o0 o1 o2 x3 h = some r → xEv (xTa xs) d 44 (25, [xrv o0, xrv o1, xrv o2, .int x3, u4], [], h) (none, r) := by
  intro n
  induction n with
  | zero => intros; rename_i hf; cases hf
  | succ n ih =>
    intro u4 o0 o1 o2 x3 h r hu4 hf
    replace hf : ((xgI h o2 0 5).bind fun v_1 => (if v_1 ≤ x3 then some h else (xgI h o2 0 4).bind fun v_3 => (xcv h o1 1).bind fun _ => (fn6 o1 (v_3 + x3) h).bind fun r_4 => (if r_4.1 = none then j44_77 (l44_25 n) o0 o1 o2 x3 r_4.1 r_4.2 else (xgI r_4.2 r_4.1 6 0).bind fun v_6 => (if v_6 = 2 then (xgR r_4.2 r_4.1 6 7).bind fun a_8 => (if a_8 = none then (xgI r_4.2 r_4.1 6 1).bind fun v_10 => (xcv r_4.2 o0 4).bind fun _ => (fn41 o0 2 v_10 r_4.2).bind fun h_11 => j44_77 (l44_25 n) o0 o1 o2 x3 r_4.1 h_11 else j44_77 (l44_25 n) o0 o1 o2 x3 r_4.1 r_4.2) else j44_77 (l44_25 n) o0 o1 o2 x3 r_4.1 r_4.2)))) = some r := hf
    refine ev_do i44_25 rfl ?_
    refine sh_aload (i' := 2) (n := 1) i44_26 (Or.inr ⟨rfl, by decide⟩) rfl ?_
    obtain ⟨v_1, ev_1, hf⟩ := x_bind hf
    refine sh_getI i44_27 f44_89 ev_1 ?_
    refine ev_icmp (t := 83) i44_30 rfl (fun c_2 => ?_) (fun c_2 => ?_)
    · replace hf := x_pos (show v_1 ≤ x3 from c_2) hf
      obtain rfl := Option.some.inj hf
      exact sh_vret i44_83 m44 rfl
    · replace hf := x_neg (show ¬ v_1 ≤ x3 from c_2) hf
      refine sh_aload (i' := 1) (n := 1) i44_33 (Or.inr ⟨rfl, by decide⟩) rfl ?_
      refine sh_aload (i' := 2) (n := 1) i44_34 (Or.inr ⟨rfl, by decide⟩) rfl ?_
      obtain ⟨v_3, ev_3, hf⟩ := x_bind hf
      refine sh_getI i44_35 f44_92 ev_3 ?_
      refine ev_do i44_38 rfl ?_
      refine ev_do i44_39 rfl ?_
      obtain ⟨_, eu_13, hf⟩ := x_bind hf
      obtain ⟨r_4, er_4, hf⟩ := x_bind hf
      refine sh_inv (as := [.int (v_3 + x3)]) (z := (some (xrv r_4.1), r_4.2)) i44_40 v44_95 (Or.inl ⟨by decide, rfl⟩) m6 rfl (Nat.le_of_ble_eq_true rfl) eu_13 (fn6_call (by omega) er_4) ?_
      refine sh_astore (i' := 4) (n := 2) i44_43 (Or.inl rfl) (xokst_of (Nat.le_of_ble_eq_true rfl) rfl) ?_
      refine sh_aload (i' := 4) (n := 2) i44_45 (Or.inl rfl) rfl ?_
      refine sh_null (t := 77) i44_47 rfl (fun c_5 => ?_) (fun c_5 => ?_)
      · replace hf := x_pos c_5 hf
        exact j44_77_ok hd ih hf
      · replace hf := x_neg c_5 hf
        refine sh_aload (i' := 4) (n := 2) i44_50 (Or.inl rfl) rfl ?_
        obtain ⟨v_6, ev_6, hf⟩ := x_bind hf
        refine sh_getI i44_52 f44_99 ev_6 ?_
        refine ev_do i44_55 rfl ?_
        refine ev_icmp (t := 77) i44_56 rfl (fun c_7 => ?_) (fun c_7 => ?_)
        · replace hf := x_neg (show ¬ v_6 = 2 from c_7) hf
          exact j44_77_ok hd ih hf
        · replace hf := x_pos (show v_6 = 2 from Decidable.byContradiction (fun h9 => c_7 h9)) hf
          refine sh_aload (i' := 4) (n := 2) i44_59 (Or.inl rfl) rfl ?_
          obtain ⟨a_8, ea_8, hf⟩ := x_bind hf
          refine sh_getR i44_61 f44_104 ea_8 ?_
          refine sh_nnul (t := 77) i44_64 rfl (fun c_9 => ?_) (fun c_9 => ?_)
          · replace hf := x_pos c_9 hf
            refine sh_aload (i' := 0) (n := 1) i44_67 (Or.inr ⟨rfl, by decide⟩) rfl ?_
            refine ev_do i44_68 rfl ?_
            refine sh_aload (i' := 4) (n := 2) i44_69 (Or.inl rfl) rfl ?_
            obtain ⟨v_10, ev_10, hf⟩ := x_bind hf
            refine sh_getI i44_71 f44_105 ev_10 ?_
            obtain ⟨_, eu_12, hf⟩ := x_bind hf
            obtain ⟨h_11, eh_11, hf⟩ := x_bind hf
            refine sh_inv (as := [.int v_10, .int 2]) (z := (none, h_11)) i44_74 v44_28 (Or.inl ⟨by decide, rfl⟩) m41 rfl (Nat.le_of_ble_eq_true rfl) eu_12 (fn41_call (by omega) eh_11) ?_
            exact j44_77_ok hd ih hf
          · replace hf := x_neg c_9 hf
            exact j44_77_ok hd ih hf
def j44_23  (o0 : Option Nat) (o1 : Option Nat) (o2 : Option Nat) (h : xH) : Option xH := l44_25 xFuel o0 o1 o2 0 h
theorem j44_23_ok {xs : List Int32} {d : Nat} (hd : 2 ≤ d) {u3 : Value} {u4 : Value} {o0 : Option Nat} {o1 : Option Nat} {o2 : Option Nat} {h : xH} {r : xH} (hu3 : u3.category = 1) (hu4 : u4.category = 1) (hf : j44_23 o0 o1 o2 h = some r) : xEv (xTa xs) d 44 (23, [xrv o0, xrv o1, xrv o2, u3, u4], [], h) (none, r) := by
  unfold j44_23 at hf
  refine ev_do i44_23 rfl ?_
  refine sh_istore (i' := 3) (n := 1) i44_24 (Or.inr ⟨rfl, by decide⟩) (xokst_of (Nat.le_of_ble_eq_true rfl) (xrv_cat (o2))) ?_
  exact l44_25_ok hd xFuel hu4 hf
def fn44 (o0 : Option Nat) (o1 : Option Nat) (o2 : Option Nat) (h : xH) : Option xH := (xcv h o2 0).bind fun _ => (fn1 o2 h).bind fun r_1 => (if r_1.1 = 0 then j44_23 o0 o1 o2 r_1.2 else (xgR r_1.2 o2 0 9).bind fun a_3 => (if a_3 = none then (xgI r_1.2 o2 0 2).bind fun v_5 => (xcv r_1.2 o0 4).bind fun _ => (fn41 o0 2 v_5 r_1.2).bind fun h_6 => j44_23 o0 o1 o2 h_6 else j44_23 o0 o1 o2 r_1.2))
theorem fn44_call {xs : List Int32} {d : Nat} (hd : 3 ≤ d) {o0 : Option Nat} {o1 : Option Nat} {o2 : Option Nat} {h : xH} {r : xH} (hf : fn44 o0 o1 o2 h = some r) : xCall (xTa xs) d 44 [xrv o0, xrv o1, xrv o2] h (none, r) := by
  obtain ⟨d, rfl⟩ : ∃ d2, d = d2 + 1 := ⟨d - 1, by omega⟩
  replace hd : 2 ≤ d := by omega
  refine call_of2 (fl := [xrv o0, xrv o1, xrv o2]) (Ls := [xrv o0, xrv o1, xrv o2, .float 0, .float 0]) m44 (by simp [xfl, xrv_cat, xc_i, xc_j, xc_a, xc_f]) (Nat.le_of_ble_eq_true rfl) rfl ?_
  unfold fn44 at hf
  refine sh_aload (i' := 2) (n := 1) i44_0 (Or.inr ⟨rfl, by decide⟩) rfl ?_
  obtain ⟨_, eu_8, hf⟩ := x_bind hf
  obtain ⟨r_1, er_1, hf⟩ := x_bind hf
  refine sh_inv (as := []) (z := (some (.int r_1.1), r_1.2)) i44_1 v44_76 (Or.inl ⟨by decide, rfl⟩) m1 rfl (Nat.le_of_ble_eq_true rfl) eu_8 (fn1_call (by omega) er_1) ?_
  refine ev_if (t := 23) i44_4 rfl (fun c_2 => ?_) (fun c_2 => ?_)
  · replace hf := x_pos (show r_1.1 = 0 from c_2) hf
    exact j44_23_ok hd rfl rfl hf
  · replace hf := x_neg (show ¬ r_1.1 = 0 from c_2) hf
    refine sh_aload (i' := 2) (n := 1) i44_7 (Or.inr ⟨rfl, by decide⟩) rfl ?_
    obtain ⟨a_3, ea_3, hf⟩ := x_bind hf
    refine sh_getR i44_8 f44_82 ea_3 ?_
    refine sh_nnul (t := 23) i44_11 rfl (fun c_4 => ?_) (fun c_4 => ?_)
    · replace hf := x_pos c_4 hf
      refine sh_aload (i' := 0) (n := 1) i44_14 (Or.inr ⟨rfl, by decide⟩) rfl ?_
      refine ev_do i44_15 rfl ?_
      refine sh_aload (i' := 2) (n := 1) i44_16 (Or.inr ⟨rfl, by decide⟩) rfl ?_
      obtain ⟨v_5, ev_5, hf⟩ := x_bind hf
      refine sh_getI i44_17 f44_86 ev_5 ?_
      obtain ⟨_, eu_7, hf⟩ := x_bind hf
      obtain ⟨h_6, eh_6, hf⟩ := x_bind hf
      refine sh_inv (as := [.int v_5, .int 2]) (z := (none, h_6)) i44_20 v44_28 (Or.inl ⟨by decide, rfl⟩) m41 rfl (Nat.le_of_ble_eq_true rfl) eu_7 (fn41_call (by omega) eh_6) ?_
      exact j44_23_ok hd rfl rfl hf
    · replace hf := x_neg c_4 hf
      exact j44_23_ok hd rfl rfl hf
end
section
def j43_36 (k2 : Option Nat → Option Nat → Option Nat → Int32 → xH → Option xH) (o0 : Option Nat) (o1 : Option Nat) (o2 : Option Nat) (x3 : Int32) (o4 : Option Nat) (h : xH) : Option xH := k2 o0 o1 o2 (x3 + 1) h
theorem j43_36_ok {xs : List Int32} {d : Nat} (hd : 6 ≤ d) {k2 : Option Nat → Option Nat → Option Nat → Int32 → xH → Option xH} (hk2 : ∀ {u4 : Value} {o0 : Option Nat} {o1 : Option Nat} {o2 : Option Nat} {x3 : Int32} {h : xH} {r : xH}, u4.category = 1 → k2 o0 o1 o2 x3 h = some r → xEv (xTa xs) d 43 (2, [xrv o0, xrv o1, xrv o2, .int x3, u4], [], h) (none, r)) {o0 : Option Nat} {o1 : Option Nat} {o2 : Option Nat} {x3 : Int32} {o4 : Option Nat} {h : xH} {r : xH} (hf : j43_36 k2 o0 o1 o2 x3 o4 h = some r) : xEv (xTa xs) d 43 (36, [xrv o0, xrv o1, xrv o2, .int x3, xrv o4], [], h) (none, r) := by
  unfold j43_36 at hf
  refine sh_inc (i' := 3) i43_36 rfl (xokst_of (Nat.le_of_ble_eq_true rfl) (xrv_cat (o2))) rfl ?_
  refine sh_goto (t := 2) i43_39 rfl ?_
  exact hk2 (xrv_cat (o4)) hf
def l43_2  : Nat → Option Nat → Option Nat → Option Nat → Int32 → xH → Option xH
  | 0 => fun _ _ _ _ _ => none
  | n + 1 => fun o0 o1 o2 x3 h => (xgI h o2 1 3).bind fun v_1 => (if v_1 ≤ x3 then some h else (xcv h o2 1).bind fun _ => (fn5 o2 x3 h).bind fun r_3 => (if r_3.1 = none then j43_36 (l43_2 n) o0 o1 o2 x3 r_3.1 r_3.2 else (xcv r_3.2 o1 8).bind fun _ => (fn94 o1 o2 r_3.1 r_3.2).bind fun h_5 => (xcv h_5 o0 4).bind fun _ => (fn44 o0 o2 r_3.1 h_5).bind fun h_6 => j43_36 (l43_2 n) o0 o1 o2 x3 r_3.1 h_6))
theorem l43_2_ok {xs : List Int32} {d : Nat} (hd : 6 ≤ d) : ∀ (n : Nat) {u4 : Value} {o0 : Option Nat} {o1 : Option Nat} {o2 : Option Nat} {x3 : Int32} {h : xH} {r : xH} (hu4 : u4.category = 1), l43_2 n o0 o1 o2 x3 h = some r → xEv (xTa xs) d 43 (2, [xrv o0, xrv o1, xrv o2, .int x3, u4], [], h) (none, r) := by
  intro n
  induction n with
  | zero => intros; rename_i hf; cases hf
  | succ n ih =>
    intro u4 o0 o1 o2 x3 h r hu4 hf
    replace hf : ((xgI h o2 1 3).bind fun v_1 => (if v_1 ≤ x3 then some h else (xcv h o2 1).bind fun _ => (fn5 o2 x3 h).bind fun r_3 => (if r_3.1 = none then j43_36 (l43_2 n) o0 o1 o2 x3 r_3.1 r_3.2 else (xcv r_3.2 o1 8).bind fun _ => (fn94 o1 o2 r_3.1 r_3.2).bind fun h_5 => (xcv h_5 o0 4).bind fun _ => (fn44 o0 o2 r_3.1 h_5).bind fun h_6 => j43_36 (l43_2 n) o0 o1 o2 x3 r_3.1 h_6))) = some r := hf
    refine ev_do i43_2 rfl ?_
    refine sh_aload (i' := 2) (n := 1) i43_3 (Or.inr ⟨rfl, by decide⟩) rfl ?_
    obtain ⟨v_1, ev_1, hf⟩ := x_bind hf
    refine sh_getI i43_4 f43_60 ev_1 ?_
    refine ev_icmp (t := 42) i43_7 rfl (fun c_2 => ?_) (fun c_2 => ?_)
    · replace hf := x_pos (show v_1 ≤ x3 from c_2) hf
      obtain rfl := Option.some.inj hf
      exact sh_vret i43_42 m43 rfl
    · replace hf := x_neg (show ¬ v_1 ≤ x3 from c_2) hf
      refine sh_aload (i' := 2) (n := 1) i43_10 (Or.inr ⟨rfl, by decide⟩) rfl ?_
      refine ev_do i43_11 rfl ?_
      obtain ⟨_, eu_9, hf⟩ := x_bind hf
      obtain ⟨r_3, er_3, hf⟩ := x_bind hf
      refine sh_inv (as := [.int x3]) (z := (some (xrv r_3.1), r_3.2)) i43_12 v43_65 (Or.inl ⟨by decide, rfl⟩) m5 rfl (Nat.le_of_ble_eq_true rfl) eu_9 (fn5_call (by omega) er_3) ?_
      refine sh_astore (i' := 4) (n := 2) i43_15 (Or.inl rfl) (xokst_of (Nat.le_of_ble_eq_true rfl) rfl) ?_
      refine sh_aload (i' := 4) (n := 2) i43_17 (Or.inl rfl) rfl ?_
      refine sh_null (t := 36) i43_19 rfl (fun c_4 => ?_) (fun c_4 => ?_)
      · replace hf := x_pos c_4 hf
        exact j43_36_ok hd ih hf
      · replace hf := x_neg c_4 hf
        refine sh_aload (i' := 1) (n := 1) i43_22 (Or.inr ⟨rfl, by decide⟩) rfl ?_
        refine sh_aload (i' := 2) (n := 1) i43_23 (Or.inr ⟨rfl, by decide⟩) rfl ?_
        refine sh_aload (i' := 4) (n := 2) i43_24 (Or.inl rfl) rfl ?_
        obtain ⟨_, eu_8, hf⟩ := x_bind hf
        obtain ⟨h_5, eh_5, hf⟩ := x_bind hf
        refine sh_inv (as := [xrv r_3.1, xrv o2]) (z := (none, h_5)) i43_26 v43_69 (Or.inl ⟨by decide, rfl⟩) m94 rfl (Nat.le_of_ble_eq_true rfl) eu_8 (fn94_call (by omega) eh_5) ?_
        refine sh_aload (i' := 0) (n := 1) i43_29 (Or.inr ⟨rfl, by decide⟩) rfl ?_
        refine sh_aload (i' := 2) (n := 1) i43_30 (Or.inr ⟨rfl, by decide⟩) rfl ?_
        refine sh_aload (i' := 4) (n := 2) i43_31 (Or.inl rfl) rfl ?_
        obtain ⟨_, eu_7, hf⟩ := x_bind hf
        obtain ⟨h_6, eh_6, hf⟩ := x_bind hf
        refine sh_inv (as := [xrv r_3.1, xrv o2]) (z := (none, h_6)) i43_33 v43_73 (Or.inl ⟨by decide, rfl⟩) m44 rfl (Nat.le_of_ble_eq_true rfl) eu_7 (fn44_call (by omega) eh_6) ?_
        exact j43_36_ok hd ih hf
def fn43 (o0 : Option Nat) (o1 : Option Nat) (o2 : Option Nat) (h : xH) : Option xH := l43_2 xFuel o0 o1 o2 0 h
theorem fn43_call {xs : List Int32} {d : Nat} (hd : 7 ≤ d) {o0 : Option Nat} {o1 : Option Nat} {o2 : Option Nat} {h : xH} {r : xH} (hf : fn43 o0 o1 o2 h = some r) : xCall (xTa xs) d 43 [xrv o0, xrv o1, xrv o2] h (none, r) := by
  obtain ⟨d, rfl⟩ : ∃ d2, d = d2 + 1 := ⟨d - 1, by omega⟩
  replace hd : 6 ≤ d := by omega
  refine call_of2 (fl := [xrv o0, xrv o1, xrv o2]) (Ls := [xrv o0, xrv o1, xrv o2, .float 0, .float 0]) m43 (by simp [xfl, xrv_cat, xc_i, xc_j, xc_a, xc_f]) (Nat.le_of_ble_eq_true rfl) rfl ?_
  unfold fn43 at hf
  refine ev_do i43_0 rfl ?_
  refine sh_istore (i' := 3) (n := 1) i43_1 (Or.inr ⟨rfl, by decide⟩) (xokst_of (Nat.le_of_ble_eq_true rfl) (xrv_cat (o2))) ?_
  exact l43_2_ok hd xFuel rfl hf
end
section
def j45_24  (o0 : Option Nat) (o1 : Option Nat) (o2 : Option Nat) (o3 : Option Nat) (h : xH) : Option xH := some h
theorem j45_24_ok {xs : List Int32} {d : Nat} (hd : 2 ≤ d) {o0 : Option Nat} {o1 : Option Nat} {o2 : Option Nat} {o3 : Option Nat} {h : xH} {r : xH} (hf : j45_24 o0 o1 o2 o3 h = some r) : xEv (xTa xs) d 45 (24, [xrv o0, xrv o1, xrv o2, xrv o3], [], h) (none, r) := by
  unfold j45_24 at hf
  obtain rfl := Option.some.inj hf
  exact sh_vret i45_24 m45 rfl
def fn45 (o0 : Option Nat) (o1 : Option Nat) (o2 : Option Nat) (h : xH) : Option xH := (xcv h o1 1).bind fun _ => (fn9 o1 7 h).bind fun r_1 => (if r_1.1 = none then j45_24 o0 o1 o2 r_1.1 r_1.2 else (if o2 = none then (xgI r_1.2 r_1.1 0 2).bind fun v_4 => (xcv r_1.2 o0 4).bind fun _ => (fn41 o0 3 v_4 r_1.2).bind fun h_5 => j45_24 o0 o1 o2 r_1.1 h_5 else j45_24 o0 o1 o2 r_1.1 r_1.2))
theorem fn45_call {xs : List Int32} {d : Nat} (hd : 3 ≤ d) {o0 : Option Nat} {o1 : Option Nat} {o2 : Option Nat} {h : xH} {r : xH} (hf : fn45 o0 o1 o2 h = some r) : xCall (xTa xs) d 45 [xrv o0, xrv o1, xrv o2] h (none, r) := by
  obtain ⟨d, rfl⟩ : ∃ d2, d = d2 + 1 := ⟨d - 1, by omega⟩
  replace hd : 2 ≤ d := by omega
  refine call_of2 (fl := [xrv o0, xrv o1, xrv o2]) (Ls := [xrv o0, xrv o1, xrv o2, .float 0]) m45 (by simp [xfl, xrv_cat, xc_i, xc_j, xc_a, xc_f]) (Nat.le_of_ble_eq_true rfl) rfl ?_
  unfold fn45 at hf
  refine sh_aload (i' := 1) (n := 1) i45_0 (Or.inr ⟨rfl, by decide⟩) rfl ?_
  refine ev_do i45_1 rfl ?_
  obtain ⟨_, eu_7, hf⟩ := x_bind hf
  obtain ⟨r_1, er_1, hf⟩ := x_bind hf
  refine sh_inv (as := [.int 7]) (z := (some (xrv r_1.1), r_1.2)) i45_3 v45_106 (Or.inl ⟨by decide, rfl⟩) m9 rfl (Nat.le_of_ble_eq_true rfl) eu_7 (fn9_call (by omega) er_1) ?_
  refine sh_astore (i' := 3) (n := 1) i45_6 (Or.inr ⟨rfl, by decide⟩) (xokst_of (Nat.le_of_ble_eq_true rfl) (xrv_cat (o2))) ?_
  refine sh_aload (i' := 3) (n := 1) i45_7 (Or.inr ⟨rfl, by decide⟩) rfl ?_
  refine sh_null (t := 24) i45_8 rfl (fun c_2 => ?_) (fun c_2 => ?_)
  · replace hf := x_pos c_2 hf
    exact j45_24_ok hd hf
  · replace hf := x_neg c_2 hf
    refine sh_aload (i' := 2) (n := 1) i45_11 (Or.inr ⟨rfl, by decide⟩) rfl ?_
    refine sh_nnul (t := 24) i45_12 rfl (fun c_3 => ?_) (fun c_3 => ?_)
    · replace hf := x_pos c_3 hf
      refine sh_aload (i' := 0) (n := 1) i45_15 (Or.inr ⟨rfl, by decide⟩) rfl ?_
      refine ev_do i45_16 rfl ?_
      refine sh_aload (i' := 3) (n := 1) i45_17 (Or.inr ⟨rfl, by decide⟩) rfl ?_
      obtain ⟨v_4, ev_4, hf⟩ := x_bind hf
      refine sh_getI i45_18 f45_86 ev_4 ?_
      obtain ⟨_, eu_6, hf⟩ := x_bind hf
      obtain ⟨h_5, eh_5, hf⟩ := x_bind hf
      refine sh_inv (as := [.int v_4, .int 3]) (z := (none, h_5)) i45_21 v45_28 (Or.inl ⟨by decide, rfl⟩) m41 rfl (Nat.le_of_ble_eq_true rfl) eu_6 (fn41_call (by omega) eh_5) ?_
      exact j45_24_ok hd hf
    · replace hf := x_neg c_3 hf
      exact j45_24_ok hd hf
end
section
def j46_62 (k2 : Option Nat → Option Nat → Option Nat → Int32 → xH → Option xH) (o0 : Option Nat) (o1 : Option Nat) (o2 : Option Nat) (x3 : Int32) (o4 : Option Nat) (h : xH) : Option xH := k2 o0 o1 o2 (x3 + 1) h
theorem j46_62_ok {xs : List Int32} {d : Nat} (hd : 3 ≤ d) {k2 : Option Nat → Option Nat → Option Nat → Int32 → xH → Option xH} (hk2 : ∀ {u4 : Value} {o0 : Option Nat} {o1 : Option Nat} {o2 : Option Nat} {x3 : Int32} {h : xH} {r : xH}, u4.category = 1 → k2 o0 o1 o2 x3 h = some r → xEv (xTa xs) d 46 (2, [xrv o0, xrv o1, xrv o2, .int x3, u4], [], h) (none, r)) {o0 : Option Nat} {o1 : Option Nat} {o2 : Option Nat} {x3 : Int32} {o4 : Option Nat} {h : xH} {r : xH} (hf : j46_62 k2 o0 o1 o2 x3 o4 h = some r) : xEv (xTa xs) d 46 (62, [xrv o0, xrv o1, xrv o2, .int x3, xrv o4], [], h) (none, r) := by
  unfold j46_62 at hf
  refine sh_inc (i' := 3) i46_62 rfl (xokst_of (Nat.le_of_ble_eq_true rfl) (xrv_cat (o2))) rfl ?_
  refine sh_goto (t := 2) i46_65 rfl ?_
  exact hk2 (xrv_cat (o4)) hf
def l46_2  : Nat → Option Nat → Option Nat → Option Nat → Int32 → xH → Option xH
  | 0 => fun _ _ _ _ _ => none
  | n + 1 => fun o0 o1 o2 x3 h => (xgI h o2 1 3).bind fun v_1 => (if v_1 ≤ x3 then some h else (xcv h o2 1).bind fun _ => (fn5 o2 x3 h).bind fun r_3 => (if r_3.1 = none then j46_62 (l46_2 n) o0 o1 o2 x3 r_3.1 r_3.2 else (xgI r_3.2 r_3.1 0 1).bind fun v_5 => (if v_5 = 2 then (xgR r_3.2 o2 1 0).bind fun a_7 => (xgI r_3.2 r_3.1 0 6).bind fun v_8 => (xgI r_3.2 r_3.1 0 7).bind fun v_9 => (xcv r_3.2 o1 2).bind fun _ => (fn16 o1 a_7 v_8 v_9 r_3.2).bind fun r_10 => (if r_10.1 = 0 then (xgI r_10.2 r_3.1 0 2).bind fun v_12 => (xcv r_10.2 o0 4).bind fun _ => (fn41 o0 4 v_12 r_10.2).bind fun h_13 => j46_62 (l46_2 n) o0 o1 o2 x3 r_3.1 h_13 else j46_62 (l46_2 n) o0 o1 o2 x3 r_3.1 r_10.2) else j46_62 (l46_2 n) o0 o1 o2 x3 r_3.1 r_3.2)))
theorem l46_2_ok {xs : List Int32} {d : Nat} (hd : 3 ≤ d) : ∀ (n : Nat) {u4 : Value} {o0 : Option Nat} {o1 : Option Nat} {o2 : Option Nat} {x3 : Int32} {h : xH} {r : xH} (hu4 : u4.category = 1), l46_2 n o0 o1 o2 x3 h = some r → xEv (xTa xs) d 46 (2, [xrv o0, xrv o1, xrv o2, .int x3, u4], [], h) (none, r) := by
  intro n
  induction n with
  | zero => intros; rename_i hf; cases hf
  | succ n ih =>
    intro u4 o0 o1 o2 x3 h r hu4 hf
    replace hf : ((xgI h o2 1 3).bind fun v_1 => (if v_1 ≤ x3 then some h else (xcv h o2 1).bind fun _ => (fn5 o2 x3 h).bind fun r_3 => (if r_3.1 = none then j46_62 (l46_2 n) o0 o1 o2 x3 r_3.1 r_3.2 else (xgI r_3.2 r_3.1 0 1).bind fun v_5 => (if v_5 = 2 then (xgR r_3.2 o2 1 0).bind fun a_7 => (xgI r_3.2 r_3.1 0 6).bind fun v_8 => (xgI r_3.2 r_3.1 0 7).bind fun v_9 => (xcv r_3.2 o1 2).bind fun _ => (fn16 o1 a_7 v_8 v_9 r_3.2).bind fun r_10 => (if r_10.1 = 0 then (xgI r_10.2 r_3.1 0 2).bind fun v_12 => (xcv r_10.2 o0 4).bind fun _ => (fn41 o0 4 v_12 r_10.2).bind fun h_13 => j46_62 (l46_2 n) o0 o1 o2 x3 r_3.1 h_13 else j46_62 (l46_2 n) o0 o1 o2 x3 r_3.1 r_10.2) else j46_62 (l46_2 n) o0 o1 o2 x3 r_3.1 r_3.2)))) = some r := hf
    refine ev_do i46_2 rfl ?_
    refine sh_aload (i' := 2) (n := 1) i46_3 (Or.inr ⟨rfl, by decide⟩) rfl ?_
    obtain ⟨v_1, ev_1, hf⟩ := x_bind hf
    refine sh_getI i46_4 f46_60 ev_1 ?_
    refine ev_icmp (t := 68) i46_7 rfl (fun c_2 => ?_) (fun c_2 => ?_)
    · replace hf := x_pos (show v_1 ≤ x3 from c_2) hf
      obtain rfl := Option.some.inj hf
      exact sh_vret i46_68 m46 rfl
    · replace hf := x_neg (show ¬ v_1 ≤ x3 from c_2) hf
      refine sh_aload (i' := 2) (n := 1) i46_10 (Or.inr ⟨rfl, by decide⟩) rfl ?_
      refine ev_do i46_11 rfl ?_
      obtain ⟨_, eu_16, hf⟩ := x_bind hf
      obtain ⟨r_3, er_3, hf⟩ := x_bind hf
      refine sh_inv (as := [.int x3]) (z := (some (xrv r_3.1), r_3.2)) i46_12 v46_65 (Or.inl ⟨by decide, rfl⟩) m5 rfl (Nat.le_of_ble_eq_true rfl) eu_16 (fn5_call (by omega) er_3) ?_
      refine sh_astore (i' := 4) (n := 2) i46_15 (Or.inl rfl) (xokst_of (Nat.le_of_ble_eq_true rfl) rfl) ?_
      refine sh_aload (i' := 4) (n := 2) i46_17 (Or.inl rfl) rfl ?_
      refine sh_null (t := 62) i46_19 rfl (fun c_4 => ?_) (fun c_4 => ?_)
      · replace hf := x_pos c_4 hf
        exact j46_62_ok hd ih hf
      · replace hf := x_neg c_4 hf
        refine sh_aload (i' := 4) (n := 2) i46_22 (Or.inl rfl) rfl ?_
        obtain ⟨v_5, ev_5, hf⟩ := x_bind hf
        refine sh_getI i46_24 f46_109 ev_5 ?_
        refine ev_do i46_27 rfl ?_
        refine ev_icmp (t := 62) i46_28 rfl (fun c_6 => ?_) (fun c_6 => ?_)
        · replace hf := x_neg (show ¬ v_5 = 2 from c_6) hf
          exact j46_62_ok hd ih hf
        · replace hf := x_pos (show v_5 = 2 from Decidable.byContradiction (fun h9 => c_6 h9)) hf
          refine sh_aload (i' := 1) (n := 1) i46_31 (Or.inr ⟨rfl, by decide⟩) rfl ?_
          refine sh_aload (i' := 2) (n := 1) i46_32 (Or.inr ⟨rfl, by decide⟩) rfl ?_
          obtain ⟨a_7, ea_7, hf⟩ := x_bind hf
          refine sh_getR i46_33 f46_110 ea_7 ?_
          refine sh_aload (i' := 4) (n := 2) i46_36 (Or.inl rfl) rfl ?_
          obtain ⟨v_8, ev_8, hf⟩ := x_bind hf
          refine sh_getI i46_38 f46_114 ev_8 ?_
          refine sh_aload (i' := 4) (n := 2) i46_41 (Or.inl rfl) rfl ?_
          obtain ⟨v_9, ev_9, hf⟩ := x_bind hf
          refine sh_getI i46_43 f46_117 ev_9 ?_
          obtain ⟨_, eu_15, hf⟩ := x_bind hf
          obtain ⟨r_10, er_10, hf⟩ := x_bind hf
          refine sh_inv (as := [.int v_9, .int v_8, xrv a_7]) (z := (some (.int r_10.1), r_10.2)) i46_46 v46_120 (Or.inl ⟨by decide, rfl⟩) m16 rfl (Nat.le_of_ble_eq_true rfl) eu_15 (fn16_call (by omega) er_10) ?_
          refine ev_if (t := 62) i46_49 rfl (fun c_11 => ?_) (fun c_11 => ?_)
          · replace hf := x_neg (show ¬ r_10.1 = 0 from c_11) hf
            exact j46_62_ok hd ih hf
          · replace hf := x_pos (show r_10.1 = 0 from Decidable.byContradiction (fun h9 => c_11 h9)) hf
            refine sh_aload (i' := 0) (n := 1) i46_52 (Or.inr ⟨rfl, by decide⟩) rfl ?_
            refine ev_do i46_53 rfl ?_
            refine sh_aload (i' := 4) (n := 2) i46_54 (Or.inl rfl) rfl ?_
            obtain ⟨v_12, ev_12, hf⟩ := x_bind hf
            refine sh_getI i46_56 f46_86 ev_12 ?_
            obtain ⟨_, eu_14, hf⟩ := x_bind hf
            obtain ⟨h_13, eh_13, hf⟩ := x_bind hf
            refine sh_inv (as := [.int v_12, .int 4]) (z := (none, h_13)) i46_59 v46_28 (Or.inl ⟨by decide, rfl⟩) m41 rfl (Nat.le_of_ble_eq_true rfl) eu_14 (fn41_call (by omega) eh_13) ?_
            exact j46_62_ok hd ih hf
def fn46 (o0 : Option Nat) (o1 : Option Nat) (o2 : Option Nat) (h : xH) : Option xH := l46_2 xFuel o0 o1 o2 0 h
theorem fn46_call {xs : List Int32} {d : Nat} (hd : 4 ≤ d) {o0 : Option Nat} {o1 : Option Nat} {o2 : Option Nat} {h : xH} {r : xH} (hf : fn46 o0 o1 o2 h = some r) : xCall (xTa xs) d 46 [xrv o0, xrv o1, xrv o2] h (none, r) := by
  obtain ⟨d, rfl⟩ : ∃ d2, d = d2 + 1 := ⟨d - 1, by omega⟩
  replace hd : 3 ≤ d := by omega
  refine call_of2 (fl := [xrv o0, xrv o1, xrv o2]) (Ls := [xrv o0, xrv o1, xrv o2, .float 0, .float 0]) m46 (by simp [xfl, xrv_cat, xc_i, xc_j, xc_a, xc_f]) (Nat.le_of_ble_eq_true rfl) rfl ?_
  unfold fn46 at hf
  refine ev_do i46_0 rfl ?_
  refine sh_istore (i' := 3) (n := 1) i46_1 (Or.inr ⟨rfl, by decide⟩) (xokst_of (Nat.le_of_ble_eq_true rfl) (xrv_cat (o2))) ?_
  exact l46_2_ok hd xFuel rfl hf
end
section
def j47_26  (o0 : Option Nat) (o1 : Option Nat) (o2 : Option Nat) (o3 : Option Nat) (h : xH) : Option xH := some h
theorem j47_26_ok {xs : List Int32} {d : Nat} (hd : 2 ≤ d) {o0 : Option Nat} {o1 : Option Nat} {o2 : Option Nat} {o3 : Option Nat} {h : xH} {r : xH} (hf : j47_26 o0 o1 o2 o3 h = some r) : xEv (xTa xs) d 47 (26, [xrv o0, xrv o1, xrv o2, xrv o3], [], h) (none, r) := by
  unfold j47_26 at hf
  obtain rfl := Option.some.inj hf
  exact sh_vret i47_26 m47 rfl
def fn47 (o0 : Option Nat) (o1 : Option Nat) (o2 : Option Nat) (h : xH) : Option xH := (xcv h o2 1).bind fun _ => (fn9 o2 3 h).bind fun r_1 => (if r_1.1 = none then j47_26 o0 o1 o2 r_1.1 r_1.2 else (xgI r_1.2 o1 2 4).bind fun v_3 => (if v_3 = 0 then (xgI r_1.2 r_1.1 0 2).bind fun v_5 => (xcv r_1.2 o0 4).bind fun _ => (fn41 o0 5 v_5 r_1.2).bind fun h_6 => j47_26 o0 o1 o2 r_1.1 h_6 else j47_26 o0 o1 o2 r_1.1 r_1.2))
theorem fn47_call {xs : List Int32} {d : Nat} (hd : 3 ≤ d) {o0 : Option Nat} {o1 : Option Nat} {o2 : Option Nat} {h : xH} {r : xH} (hf : fn47 o0 o1 o2 h = some r) : xCall (xTa xs) d 47 [xrv o0, xrv o1, xrv o2] h (none, r) := by
  obtain ⟨d, rfl⟩ : ∃ d2, d = d2 + 1 := ⟨d - 1, by omega⟩
  replace hd : 2 ≤ d := by omega
  refine call_of2 (fl := [xrv o0, xrv o1, xrv o2]) (Ls := [xrv o0, xrv o1, xrv o2, .float 0]) m47 (by simp [xfl, xrv_cat, xc_i, xc_j, xc_a, xc_f]) (Nat.le_of_ble_eq_true rfl) rfl ?_
  unfold fn47 at hf
  refine sh_aload (i' := 2) (n := 1) i47_0 (Or.inr ⟨rfl, by decide⟩) rfl ?_
  refine ev_do i47_1 rfl ?_
  obtain ⟨_, eu_8, hf⟩ := x_bind hf
  obtain ⟨r_1, er_1, hf⟩ := x_bind hf
  refine sh_inv (as := [.int 3]) (z := (some (xrv r_1.1), r_1.2)) i47_2 v47_106 (Or.inl ⟨by decide, rfl⟩) m9 rfl (Nat.le_of_ble_eq_true rfl) eu_8 (fn9_call (by omega) er_1) ?_
  refine sh_astore (i' := 3) (n := 1) i47_5 (Or.inr ⟨rfl, by decide⟩) (xokst_of (Nat.le_of_ble_eq_true rfl) (xrv_cat (o2))) ?_
  refine sh_aload (i' := 3) (n := 1) i47_6 (Or.inr ⟨rfl, by decide⟩) rfl ?_
  refine sh_null (t := 26) i47_7 rfl (fun c_2 => ?_) (fun c_2 => ?_)
  · replace hf := x_pos c_2 hf
    exact j47_26_ok hd hf
  · replace hf := x_neg c_2 hf
    refine sh_aload (i' := 1) (n := 1) i47_10 (Or.inr ⟨rfl, by decide⟩) rfl ?_
    obtain ⟨v_3, ev_3, hf⟩ := x_bind hf
    refine sh_getI i47_11 f47_124 ev_3 ?_
    refine ev_if (t := 26) i47_14 rfl (fun c_4 => ?_) (fun c_4 => ?_)
    · replace hf := x_neg (show ¬ v_3 = 0 from c_4) hf
      exact j47_26_ok hd hf
    · replace hf := x_pos (show v_3 = 0 from Decidable.byContradiction (fun h9 => c_4 h9)) hf
      refine sh_aload (i' := 0) (n := 1) i47_17 (Or.inr ⟨rfl, by decide⟩) rfl ?_
      refine ev_do i47_18 rfl ?_
      refine sh_aload (i' := 3) (n := 1) i47_19 (Or.inr ⟨rfl, by decide⟩) rfl ?_
      obtain ⟨v_5, ev_5, hf⟩ := x_bind hf
      refine sh_getI i47_20 f47_86 ev_5 ?_
      obtain ⟨_, eu_7, hf⟩ := x_bind hf
      obtain ⟨h_6, eh_6, hf⟩ := x_bind hf
      refine sh_inv (as := [.int v_5, .int 5]) (z := (none, h_6)) i47_23 v47_28 (Or.inl ⟨by decide, rfl⟩) m41 rfl (Nat.le_of_ble_eq_true rfl) eu_7 (fn41_call (by omega) eh_6) ?_
      exact j47_26_ok hd hf
end
section
def j49_66  (o0 : Option Nat) (o1 : Option Nat) (o2 : Option Nat) (o3 : Option Nat) (x4 : Int32) (h : xH) : Option (Int32 × xH) := some (0, h)
theorem j49_66_ok {xs : List Int32} {d : Nat} (hd : 5 ≤ d) {u5 : Value} {o0 : Option Nat} {o1 : Option Nat} {o2 : Option Nat} {o3 : Option Nat} {x4 : Int32} {h : xH} {r : (Int32 × xH)} (hu5 : u5.category = 1) (hf : j49_66 o0 o1 o2 o3 x4 h = some r) : xEv (xTa xs) d 49 (66, [xrv o0, xrv o1, xrv o2, xrv o3, .int x4, u5], [], h) (some (.int r.1), r.2) := by
  unfold j49_66 at hf
  refine ev_do i49_66 rfl ?_
  obtain rfl := Option.some.inj hf
  exact sh_iret i49_67 m49 rfl (by decide)
def j49_54 (k5 : Option Nat → Option Nat → Option Nat → Option Nat → Int32 → xH → Option (Int32 × xH)) (o0 : Option Nat) (o1 : Option Nat) (o2 : Option Nat) (o3 : Option Nat) (x4 : Int32) (o5 : Option Nat) (h : xH) : Option (Int32 × xH) := (xcv h o0 8).bind fun _ => (fn90 o0 o3 h).bind fun r_1 => k5 o0 o1 o2 r_1.1 (x4 + 1) r_1.2
theorem j49_54_ok {xs : List Int32} {d : Nat} (hd : 5 ≤ d) {k5 : Option Nat → Option Nat → Option Nat → Option Nat → Int32 → xH → Option (Int32 × xH)} (hk5 : ∀ {u5 : Value} {o0 : Option Nat} {o1 : Option Nat} {o2 : Option Nat} {o3 : Option Nat} {x4 : Int32} {h : xH} {r : (Int32 × xH)}, u5.category = 1 → k5 o0 o1 o2 o3 x4 h = some r → xEv (xTa xs) d 49 (5, [xrv o0, xrv o1, xrv o2, xrv o3, .int x4, u5], [], h) (some (.int r.1), r.2)) {o0 : Option Nat} {o1 : Option Nat} {o2 : Option Nat} {o3 : Option Nat} {x4 : Int32} {o5 : Option Nat} {h : xH} {r : (Int32 × xH)} (hf : j49_54 k5 o0 o1 o2 o3 x4 o5 h = some r) : xEv (xTa xs) d 49 (54, [xrv o0, xrv o1, xrv o2, xrv o3, .int x4, xrv o5], [], h) (some (.int r.1), r.2) := by
  unfold j49_54 at hf
  refine sh_aload (i' := 0) (n := 1) i49_54 (Or.inr ⟨rfl, by decide⟩) rfl ?_
  refine sh_aload (i' := 3) (n := 1) i49_55 (Or.inr ⟨rfl, by decide⟩) rfl ?_
  obtain ⟨_, eu_2, hf⟩ := x_bind hf
  obtain ⟨r_1, er_1, hf⟩ := x_bind hf
  refine sh_inv (as := [xrv o3]) (z := (some (xrv r_1.1), r_1.2)) i49_56 v49_143 (Or.inl ⟨by decide, rfl⟩) m90 rfl (Nat.le_of_ble_eq_true rfl) eu_2 (fn90_call (by omega) er_1) ?_
  refine sh_astore (i' := 3) (n := 1) i49_59 (Or.inr ⟨rfl, by decide⟩) (xokst_of (Nat.le_of_ble_eq_true rfl) (xrv_cat (o2))) ?_
  refine sh_inc (i' := 4) i49_60 rfl (xokst_of (Nat.le_of_ble_eq_true rfl) (xrv_cat (r_1.1))) rfl ?_
  refine sh_goto (t := 5) i49_63 rfl ?_
  exact hk5 (xrv_cat (o5)) hf
def j49_52  (o0 : Option Nat) (o1 : Option Nat) (o2 : Option Nat) (o3 : Option Nat) (x4 : Int32) (o5 : Option Nat) (h : xH) : Option (Int32 × xH) := some (1, h)
theorem j49_52_ok {xs : List Int32} {d : Nat} (hd : 5 ≤ d) {o0 : Option Nat} {o1 : Option Nat} {o2 : Option Nat} {o3 : Option Nat} {x4 : Int32} {o5 : Option Nat} {h : xH} {r : (Int32 × xH)} (hf : j49_52 o0 o1 o2 o3 x4 o5 h = some r) : xEv (xTa xs) d 49 (52, [xrv o0, xrv o1, xrv o2, xrv o3, .int x4, xrv o5], [], h) (some (.int r.1), r.2) := by
  unfold j49_52 at hf
  refine ev_do i49_52 rfl ?_
  obtain rfl := Option.some.inj hf
  exact sh_iret i49_53 m49 rfl (by decide)
def l49_5  : Nat → Option Nat → Option Nat → Option Nat → Option Nat → Int32 → xH → Option (Int32 × xH)
  | 0 => fun _ _ _ _ _ _ => none
  | n + 1 => fun o0 o1 o2 o3 x4 h => (if 40 ≤ x4 then j49_66 o0 o1 o2 o3 x4 h else (if o3 = none then j49_66 o0 o1 o2 o3 x4 h else (xcv h o3 2).bind fun _ => (fn14 o3 h).bind fun r_3 => (if r_3.1 = none then j49_54 (l49_5 n) o0 o1 o2 o3 x4 r_3.1 r_3.2 else (if o2 = none then (xcv r_3.2 r_3.1 1).bind fun _ => (fn9 r_3.1 3 r_3.2).bind fun r_6 => (if r_6.1 = none then j49_54 (l49_5 n) o0 o1 o2 o3 x4 r_3.1 r_6.2 else j49_52 o0 o1 o2 o3 x4 r_3.1 r_6.2) else (xcv r_3.2 r_3.1 1).bind fun _ => (fn10 r_3.1 o2 r_3.2).bind fun r_9 => (if r_9.1 = 0 then j49_54 (l49_5 n) o0 o1 o2 o3 x4 r_3.1 r_9.2 else j49_52 o0 o1 o2 o3 x4 r_3.1 r_9.2)))))
theorem l49_5_ok {xs : List Int32} {d : Nat} (hd : 5 ≤ d) : ∀ (n : Nat) {u5 : Value} {o0 : Option Nat} {o1 : Option Nat} {o2 : Option Nat} {o3 : Option Nat} {x4 : Int32} {h : xH} {r : (Int32 × xH)} (hu5 : u5.category = 1), l49_5 n o0 o1 o2 o3 x4 h = some r → xEv (xTa xs) d 49 (5, [xrv o0, xrv o1, xrv o2, xrv o3, .int x4, u5], [], h) (some (.int r.1), r.2) := by
  intro n
  induction n with
  | zero => intros; rename_i hf; cases hf
  | succ n ih =>
    intro u5 o0 o1 o2 o3 x4 h r hu5 hf
    replace hf : ((if 40 ≤ x4 then j49_66 o0 o1 o2 o3 x4 h else (if o3 = none then j49_66 o0 o1 o2 o3 x4 h else (xcv h o3 2).bind fun _ => (fn14 o3 h).bind fun r_3 => (if r_3.1 = none then j49_54 (l49_5 n) o0 o1 o2 o3 x4 r_3.1 r_3.2 else (if o2 = none then (xcv r_3.2 r_3.1 1).bind fun _ => (fn9 r_3.1 3 r_3.2).bind fun r_6 => (if r_6.1 = none then j49_54 (l49_5 n) o0 o1 o2 o3 x4 r_3.1 r_6.2 else j49_52 o0 o1 o2 o3 x4 r_3.1 r_6.2) else (xcv r_3.2 r_3.1 1).bind fun _ => (fn10 r_3.1 o2 r_3.2).bind fun r_9 => (if r_9.1 = 0 then j49_54 (l49_5 n) o0 o1 o2 o3 x4 r_3.1 r_9.2 else j49_52 o0 o1 o2 o3 x4 r_3.1 r_9.2)))))) = some r := hf
    refine ev_do i49_5 rfl ?_
    refine ev_do i49_7 rfl ?_
    refine ev_icmp (t := 66) i49_9 rfl (fun c_1 => ?_) (fun c_1 => ?_)
    · replace hf := x_pos (show 40 ≤ x4 from c_1) hf
      exact j49_66_ok hd hu5 hf
    · replace hf := x_neg (show ¬ 40 ≤ x4 from c_1) hf
      refine sh_aload (i' := 3) (n := 1) i49_12 (Or.inr ⟨rfl, by decide⟩) rfl ?_
      refine sh_null (t := 66) i49_13 rfl (fun c_2 => ?_) (fun c_2 => ?_)
      · replace hf := x_pos c_2 hf
        exact j49_66_ok hd hu5 hf
      · replace hf := x_neg c_2 hf
        refine sh_aload (i' := 3) (n := 1) i49_16 (Or.inr ⟨rfl, by decide⟩) rfl ?_
        obtain ⟨_, eu_12, hf⟩ := x_bind hf
        obtain ⟨r_3, er_3, hf⟩ := x_bind hf
        refine sh_inv (as := []) (z := (some (xrv r_3.1), r_3.2)) i49_17 v49_32 (Or.inl ⟨by decide, rfl⟩) m14 rfl (Nat.le_of_ble_eq_true rfl) eu_12 (fn14_call (by omega) er_3) ?_
        refine sh_astore (i' := 5) (n := 2) i49_20 (Or.inl rfl) (xokst_of (Nat.le_of_ble_eq_true rfl) rfl) ?_
        refine sh_aload (i' := 5) (n := 2) i49_22 (Or.inl rfl) rfl ?_
        refine sh_null (t := 54) i49_24 rfl (fun c_4 => ?_) (fun c_4 => ?_)
        · replace hf := x_pos c_4 hf
          exact j49_54_ok hd ih hf
        · replace hf := x_neg c_4 hf
          refine sh_aload (i' := 2) (n := 1) i49_27 (Or.inr ⟨rfl, by decide⟩) rfl ?_
          refine sh_nnul (t := 43) i49_28 rfl (fun c_5 => ?_) (fun c_5 => ?_)
          · replace hf := x_pos c_5 hf
            refine sh_aload (i' := 5) (n := 2) i49_31 (Or.inl rfl) rfl ?_
            refine ev_do i49_33 rfl ?_
            obtain ⟨_, eu_8, hf⟩ := x_bind hf
            obtain ⟨r_6, er_6, hf⟩ := x_bind hf
            refine sh_inv (as := [.int 3]) (z := (some (xrv r_6.1), r_6.2)) i49_34 v49_106 (Or.inl ⟨by decide, rfl⟩) m9 rfl (Nat.le_of_ble_eq_true rfl) eu_8 (fn9_call (by omega) er_6) ?_
            refine sh_null (t := 54) i49_37 rfl (fun c_7 => ?_) (fun c_7 => ?_)
            · replace hf := x_pos c_7 hf
              exact j49_54_ok hd ih hf
            · replace hf := x_neg c_7 hf
              refine sh_goto (t := 52) i49_40 rfl ?_
              exact j49_52_ok hd hf
          · replace hf := x_neg c_5 hf
            refine sh_aload (i' := 5) (n := 2) i49_43 (Or.inl rfl) rfl ?_
            refine sh_aload (i' := 2) (n := 1) i49_45 (Or.inr ⟨rfl, by decide⟩) rfl ?_
            obtain ⟨_, eu_11, hf⟩ := x_bind hf
            obtain ⟨r_9, er_9, hf⟩ := x_bind hf
            refine sh_inv (as := [xrv o2]) (z := (some (.int r_9.1), r_9.2)) i49_46 v49_139 (Or.inl ⟨by decide, rfl⟩) m10 rfl (Nat.le_of_ble_eq_true rfl) eu_11 (fn10_call (by omega) er_9) ?_
            refine ev_if (t := 54) i49_49 rfl (fun c_10 => ?_) (fun c_10 => ?_)
            · replace hf := x_pos (show r_9.1 = 0 from c_10) hf
              exact j49_54_ok hd ih hf
            · replace hf := x_neg (show ¬ r_9.1 = 0 from c_10) hf
              exact j49_52_ok hd hf
def fn49 (o0 : Option Nat) (o1 : Option Nat) (o2 : Option Nat) (h : xH) : Option (Int32 × xH) := l49_5 xFuel o0 o1 o2 o1 0 h
theorem fn49_call {xs : List Int32} {d : Nat} (hd : 6 ≤ d) {o0 : Option Nat} {o1 : Option Nat} {o2 : Option Nat} {h : xH} {r : (Int32 × xH)} (hf : fn49 o0 o1 o2 h = some r) : xCall (xTa xs) d 49 [xrv o0, xrv o1, xrv o2] h (some (.int r.1), r.2) := by
  obtain ⟨d, rfl⟩ : ∃ d2, d = d2 + 1 := ⟨d - 1, by omega⟩
  replace hd : 5 ≤ d := by omega
  refine call_of2 (fl := [xrv o0, xrv o1, xrv o2]) (Ls := [xrv o0, xrv o1, xrv o2, .float 0, .float 0, .float 0]) m49 (by simp [xfl, xrv_cat, xc_i, xc_j, xc_a, xc_f]) (Nat.le_of_ble_eq_true rfl) rfl ?_
  unfold fn49 at hf
  refine sh_aload (i' := 1) (n := 1) i49_0 (Or.inr ⟨rfl, by decide⟩) rfl ?_
  refine sh_astore (i' := 3) (n := 1) i49_1 (Or.inr ⟨rfl, by decide⟩) (xokst_of (Nat.le_of_ble_eq_true rfl) (xrv_cat (o2))) ?_
  refine ev_do i49_2 rfl ?_
  refine sh_istore (i' := 4) (n := 2) i49_3 (Or.inl rfl) (xokst_of (Nat.le_of_ble_eq_true rfl) (xrv_cat (o1))) ?_
  exact l49_5_ok hd xFuel rfl hf
end
