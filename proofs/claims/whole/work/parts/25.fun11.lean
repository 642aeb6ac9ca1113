section
def j154_125  (o0 : Option Nat) (x1 : Int32) (x2 : Int32) (x3 : Int32) (x4 : Int32) (s0 : Int32) (h : xH) : Option (Int32 × xH) := (xpF h o0 11 1 .int (.int 0)).bind fun h_1 => some (s0, h_1)
theorem j154_125_ok {xs : List Int32} {d : Nat} (hd : 4 ≤ d) {o0 : Option Nat} {x1 : Int32} {x2 : Int32} {x3 : Int32} {x4 : Int32} {s0 : Int32} {h : xH} {r : (Int32 × xH)} (hf : j154_125 o0 x1 x2 x3 x4 s0 h = some r) : xEv (xTa xs) d 154 (125, [xrv o0, .int x1, .int x2, .int x3, .int x4], [.int s0], h) (some (.int r.1), r.2) := by
  unfold j154_125 at hf
  refine sh_istore (i' := 4) (n := 2) i154_125 (Or.inl rfl) (xokst_of (Nat.le_of_ble_eq_true rfl) rfl) ?_
  refine sh_aload (i' := 0) (n := 1) i154_127 (Or.inr ⟨rfl, by decide⟩) rfl ?_
  refine ev_do i154_128 rfl ?_
  obtain ⟨h_1, eh_1, hf⟩ := x_bind hf
  refine sh_put i154_129 f154_146 (by decide) rfl eh_1 ?_
  refine ev_do i154_132 rfl ?_
  obtain rfl := Option.some.inj hf
  exact sh_iret i154_134 m154 rfl rfl
def j154_95  (o0 : Option Nat) (x1 : Int32) (x2 : Int32) (x3 : Int32) (x4 : Int32) (h : xH) : Option (Int32 × xH) := (if x3 = 0 then j154_125 o0 x1 x2 x3 x4 (-1) h else (xgI h o0 11 2).bind fun v_2 => (if v_2 = 40 then j154_125 o0 x1 x2 x3 x4 (-3) h else (xcv h o0 11).bind fun _ => (fn152 o0 0 x1 (-1) x2 h).bind fun r_4 => j154_125 o0 x1 x2 x3 x4 r_4.1 r_4.2))
theorem j154_95_ok {xs : List Int32} {d : Nat} (hd : 4 ≤ d) {o0 : Option Nat} {x1 : Int32} {x2 : Int32} {x3 : Int32} {x4 : Int32} {h : xH} {r : (Int32 × xH)} (hf : j154_95 o0 x1 x2 x3 x4 h = some r) : xEv (xTa xs) d 154 (95, [xrv o0, .int x1, .int x2, .int x3, .int x4], [], h) (some (.int r.1), r.2) := by
  unfold j154_95 at hf
  refine ev_do i154_95 rfl ?_
  refine ev_if (t := 103) i154_96 rfl (fun c_1 => ?_) (fun c_1 => ?_)
  · replace hf := x_neg (show ¬ x3 = 0 from c_1) hf
    refine sh_aload (i' := 0) (n := 1) i154_103 (Or.inr ⟨rfl, by decide⟩) rfl ?_
    obtain ⟨v_2, ev_2, hf⟩ := x_bind hf
    refine sh_getI i154_104 f154_158 ev_2 ?_
    refine ev_do i154_107 rfl ?_
    refine ev_icmp (t := 117) i154_109 rfl (fun c_3 => ?_) (fun c_3 => ?_)
    · replace hf := x_neg (show ¬ v_2 = 40 from c_3) hf
      refine sh_aload (i' := 0) (n := 1) i154_117 (Or.inr ⟨rfl, by decide⟩) rfl ?_
      refine ev_do i154_118 rfl ?_
      refine ev_do i154_119 rfl ?_
      refine ev_do i154_120 rfl ?_
      refine ev_do i154_121 rfl ?_
      obtain ⟨_, eu_5, hf⟩ := x_bind hf
      obtain ⟨r_4, er_4, hf⟩ := x_bind hf
      refine sh_inv (as := [.int x2, .int (-1), .int x1, .int 0]) (z := (some (.int r_4.1), r_4.2)) i154_122 v154_186 (Or.inl ⟨by decide, rfl⟩) m152 rfl (Nat.le_of_ble_eq_true rfl) eu_5 (fn152_call (by omega) er_4) ?_
      exact j154_125_ok hd hf
    · replace hf := x_pos (show v_2 = 40 from Decidable.byContradiction (fun h9 => c_3 h9)) hf
      refine ev_do i154_112 rfl ?_
      refine sh_goto (t := 125) i154_114 rfl ?_
      exact j154_125_ok hd hf
  · replace hf := x_pos (show x3 = 0 from Decidable.byContradiction (fun h9 => c_1 h9)) hf
    refine ev_do i154_99 rfl ?_
    refine sh_goto (t := 125) i154_100 rfl ?_
    exact j154_125_ok hd hf
def j154_88 (k26 : Option Nat → Int32 → Int32 → Int32 → Int32 → xH → Option (Int32 × xH)) (o0 : Option Nat) (x1 : Int32) (x2 : Int32) (x3 : Int32) (x4 : Int32) (s0 : Int32) (h : xH) : Option (Int32 × xH) := k26 o0 x1 x2 s0 (x4 + 1) h
theorem j154_88_ok {xs : List Int32} {d : Nat} (hd : 4 ≤ d) {k26 : Option Nat → Int32 → Int32 → Int32 → Int32 → xH → Option (Int32 × xH)} (hk26 : ∀ {o0 : Option Nat} {x1 : Int32} {x2 : Int32} {x3 : Int32} {x4 : Int32} {h : xH} {r : (Int32 × xH)}, k26 o0 x1 x2 x3 x4 h = some r → xEv (xTa xs) d 154 (26, [xrv o0, .int x1, .int x2, .int x3, .int x4], [], h) (some (.int r.1), r.2)) {o0 : Option Nat} {x1 : Int32} {x2 : Int32} {x3 : Int32} {x4 : Int32} {s0 : Int32} {h : xH} {r : (Int32 × xH)} (hf : j154_88 k26 o0 x1 x2 x3 x4 s0 h = some r) : xEv (xTa xs) d 154 (88, [xrv o0, .int x1, .int x2, .int x3, .int x4], [.int s0], h) (some (.int r.1), r.2) := by
  unfold j154_88 at hf
  refine sh_istore (i' := 3) (n := 1) i154_88 (Or.inr ⟨rfl, by decide⟩) (xokst_of (Nat.le_of_ble_eq_true rfl) rfl) ?_
  refine sh_inc (i' := 4) i154_89 rfl (xokst_of (Nat.le_of_ble_eq_true rfl) rfl) rfl ?_
  refine sh_goto (t := 26) i154_92 rfl ?_
  exact hk26 hf
def j154_83 (k26 : Option Nat → Int32 → Int32 → Int32 → Int32 → xH → Option (Int32 × xH)) (o0 : Option Nat) (x1 : Int32) (x2 : Int32) (x3 : Int32) (x4 : Int32) (h : xH) : Option (Int32 × xH) := j154_88 k26 o0 x1 x2 x3 x4 1 h
theorem j154_83_ok {xs : List Int32} {d : Nat} (hd : 4 ≤ d) {k26 : Option Nat → Int32 → Int32 → Int32 → Int32 → xH → Option (Int32 × xH)} (hk26 : ∀ {o0 : Option Nat} {x1 : Int32} {x2 : Int32} {x3 : Int32} {x4 : Int32} {h : xH} {r : (Int32 × xH)}, k26 o0 x1 x2 x3 x4 h = some r → xEv (xTa xs) d 154 (26, [xrv o0, .int x1, .int x2, .int x3, .int x4], [], h) (some (.int r.1), r.2)) {o0 : Option Nat} {x1 : Int32} {x2 : Int32} {x3 : Int32} {x4 : Int32} {h : xH} {r : (Int32 × xH)} (hf : j154_83 k26 o0 x1 x2 x3 x4 h = some r) : xEv (xTa xs) d 154 (83, [xrv o0, .int x1, .int x2, .int x3, .int x4], [], h) (some (.int r.1), r.2) := by
  unfold j154_83 at hf
  refine ev_do i154_83 rfl ?_
  refine sh_goto (t := 88) i154_84 rfl ?_
  exact j154_88_ok hd hk26 hf
def l154_26  : Nat → Option Nat → Int32 → Int32 → Int32 → Int32 → xH → Option (Int32 × xH)
  | 0 => fun _ _ _ _ _ _ => none
  | n + 1 => fun o0 x1 x2 x3 x4 h => (xgI h o0 11 2).bind fun v_1 => (if v_1 ≤ x4 then j154_95 o0 x1 x2 x3 x4 h else (if x3 = 0 then j154_95 o0 x1 x2 x3 x4 h else (xgR h o0 11 3).bind fun a_4 => (xaI h 14 a_4 x4).bind fun v_5 => (if v_5 = 0 then (xgR h o0 11 4).bind fun a_7 => (xaI h 13 a_7 x4).bind fun v_8 => (if v_8 = x1 then (xgR h o0 11 7).bind fun a_10 => (xgR h o0 11 8).bind fun a_11 => (xaI h 13 a_11 x4).bind fun v_12 => (xcv h o0 11).bind fun _ => (fn151 o0 a_10 (10 * x4) v_12 h).bind fun r_13 => (if r_13.1 = 0 then j154_83 (l154_26 n) o0 x1 x2 x3 x4 r_13.2 else j154_88 (l154_26 n) o0 x1 x2 x3 x4 0 r_13.2) else j154_83 (l154_26 n) o0 x1 x2 x3 x4 h) else j154_83 (l154_26 n) o0 x1 x2 x3 x4 h)))
theorem l154_26_ok {xs : List Int32} {d : Nat} (hd : 4 ≤ d) : ∀ (n : Nat) {o0 : Option Nat} {x1 : Int32} {x2 : Int32} {x3 : Int32} {x4 : Int32} {h : xH} {r : (Int32 × xH)}, l154_26 n o0 x1 x2 x3 x4 h = some r → xEv (xTa xs) d 154 (26, [xrv o0, .int x1, .int x2, .int x3, .int x4], [], h) (some (.int r.1), r.2) := by
  intro n
  induction n with
  | zero => intros; rename_i hf; cases hf
  | succ n ih =>
    intro o0 x1 x2 x3 x4 h r hf
    replace hf : ((xgI h o0 11 2).bind fun v_1 => (if v_1 ≤ x4 then j154_95 o0 x1 x2 x3 x4 h else (if x3 = 0 then j154_95 o0 x1 x2 x3 x4 h else (xgR h o0 11 3).bind fun a_4 => (xaI h 14 a_4 x4).bind fun v_5 => (if v_5 = 0 then (xgR h o0 11 4).bind fun a_7 => (xaI h 13 a_7 x4).bind fun v_8 => (if v_8 = x1 then (xgR h o0 11 7).bind fun a_10 => (xgR h o0 11 8).bind fun a_11 => (xaI h 13 a_11 x4).bind fun v_12 => (xcv h o0 11).bind fun _ => (fn151 o0 a_10 (10 * x4) v_12 h).bind fun r_13 => (if r_13.1 = 0 then j154_83 (l154_26 n) o0 x1 x2 x3 x4 r_13.2 else j154_88 (l154_26 n) o0 x1 x2 x3 x4 0 r_13.2) else j154_83 (l154_26 n) o0 x1 x2 x3 x4 h) else j154_83 (l154_26 n) o0 x1 x2 x3 x4 h)))) = some r := hf
    refine ev_do i154_26 rfl ?_
    refine sh_aload (i' := 0) (n := 1) i154_28 (Or.inr ⟨rfl, by decide⟩) rfl ?_
    obtain ⟨v_1, ev_1, hf⟩ := x_bind hf
    refine sh_getI i154_29 f154_158 ev_1 ?_
    refine ev_icmp (t := 95) i154_32 rfl (fun c_2 => ?_) (fun c_2 => ?_)
    · replace hf := x_pos (show v_1 ≤ x4 from c_2) hf
      exact j154_95_ok hd hf
    · replace hf := x_neg (show ¬ v_1 ≤ x4 from c_2) hf
      refine ev_do i154_35 rfl ?_
      refine ev_if (t := 95) i154_36 rfl (fun c_3 => ?_) (fun c_3 => ?_)
      · replace hf := x_pos (show x3 = 0 from c_3) hf
        exact j154_95_ok hd hf
      · replace hf := x_neg (show ¬ x3 = 0 from c_3) hf
        refine sh_aload (i' := 0) (n := 1) i154_39 (Or.inr ⟨rfl, by decide⟩) rfl ?_
        obtain ⟨a_4, ea_4, hf⟩ := x_bind hf
        refine sh_getR i154_40 f154_13 ea_4 ?_
        refine ev_do i154_43 rfl ?_
        obtain ⟨v_5, ev_5, hf⟩ := x_bind hf
        refine sh_aldI (tg := 14) i154_45 (Or.inr (Or.inr ⟨rfl, rfl⟩)) ev_5 ?_
        refine ev_if (t := 83) i154_46 rfl (fun c_6 => ?_) (fun c_6 => ?_)
        · replace hf := x_neg (show ¬ v_5 = 0 from c_6) hf
          exact j154_83_ok hd ih hf
        · replace hf := x_pos (show v_5 = 0 from Decidable.byContradiction (fun h9 => c_6 h9)) hf
          refine sh_aload (i' := 0) (n := 1) i154_49 (Or.inr ⟨rfl, by decide⟩) rfl ?_
          obtain ⟨a_7, ea_7, hf⟩ := x_bind hf
          refine sh_getR i154_50 f154_17 ea_7 ?_
          refine ev_do i154_53 rfl ?_
          obtain ⟨v_8, ev_8, hf⟩ := x_bind hf
          refine sh_aldI (tg := 13) i154_55 (Or.inl ⟨rfl, rfl⟩) ev_8 ?_
          refine ev_do i154_56 rfl ?_
          refine ev_icmp (t := 83) i154_57 rfl (fun c_9 => ?_) (fun c_9 => ?_)
          · replace hf := x_neg (show ¬ v_8 = x1 from c_9) hf
            exact j154_83_ok hd ih hf
          · replace hf := x_pos (show v_8 = x1 from Decidable.byContradiction (fun h9 => c_9 h9)) hf
            refine sh_aload (i' := 0) (n := 1) i154_60 (Or.inr ⟨rfl, by decide⟩) rfl ?_
            refine sh_aload (i' := 0) (n := 1) i154_61 (Or.inr ⟨rfl, by decide⟩) rfl ?_
            obtain ⟨a_10, ea_10, hf⟩ := x_bind hf
            refine sh_getR i154_62 f154_26 ea_10 ?_
            refine ev_do i154_65 rfl ?_
            refine ev_do i154_67 rfl ?_
            refine ev_do i154_69 rfl ?_
            refine sh_aload (i' := 0) (n := 1) i154_70 (Or.inr ⟨rfl, by decide⟩) rfl ?_
            obtain ⟨a_11, ea_11, hf⟩ := x_bind hf
            refine sh_getR i154_71 f154_29 ea_11 ?_
            refine ev_do i154_74 rfl ?_
            obtain ⟨v_12, ev_12, hf⟩ := x_bind hf
            refine sh_aldI (tg := 13) i154_76 (Or.inl ⟨rfl, rfl⟩) ev_12 ?_
            obtain ⟨_, eu_15, hf⟩ := x_bind hf
            obtain ⟨r_13, er_13, hf⟩ := x_bind hf
            refine sh_inv (as := [.int v_12, .int (10 * x4), xrv a_10]) (z := (some (.int r_13.1), r_13.2)) i154_77 v154_182 (Or.inl ⟨by decide, rfl⟩) m151 rfl (Nat.le_of_ble_eq_true rfl) eu_15 (fn151_call (by omega) er_13) ?_
            refine ev_if (t := 87) i154_80 rfl (fun c_14 => ?_) (fun c_14 => ?_)
            · replace hf := x_neg (show ¬ r_13.1 = 0 from c_14) hf
              refine ev_do i154_87 rfl ?_
              exact j154_88_ok hd ih hf
            · replace hf := x_pos (show r_13.1 = 0 from Decidable.byContradiction (fun h9 => c_14 h9)) hf
              exact j154_83_ok hd ih hf
def j154_22  (o0 : Option Nat) (x1 : Int32) (x2 : Int32) (s0 : Int32) (h : xH) : Option (Int32 × xH) := l154_26 xFuel o0 x1 x2 s0 0 h
theorem j154_22_ok {xs : List Int32} {d : Nat} (hd : 4 ≤ d) {u3 : Value} {u4 : Value} {o0 : Option Nat} {x1 : Int32} {x2 : Int32} {s0 : Int32} {h : xH} {r : (Int32 × xH)} (hu3 : u3.category = 1) (hu4 : u4.category = 1) (hf : j154_22 o0 x1 x2 s0 h = some r) : xEv (xTa xs) d 154 (22, [xrv o0, .int x1, .int x2, u3, u4], [.int s0], h) (some (.int r.1), r.2) := by
  unfold j154_22 at hf
  refine sh_istore (i' := 3) (n := 1) i154_22 (Or.inr ⟨rfl, by decide⟩) (xokst_of (Nat.le_of_ble_eq_true rfl) rfl) ?_
  refine ev_do i154_23 rfl ?_
  refine sh_istore (i' := 4) (n := 2) i154_24 (Or.inl rfl) (xokst_of (Nat.le_of_ble_eq_true rfl) rfl) ?_
  exact l154_26_ok hd xFuel hf
def j154_21  (o0 : Option Nat) (x1 : Int32) (x2 : Int32) (h : xH) : Option (Int32 × xH) := j154_22 o0 x1 x2 0 h
theorem j154_21_ok {xs : List Int32} {d : Nat} (hd : 4 ≤ d) {u3 : Value} {u4 : Value} {o0 : Option Nat} {x1 : Int32} {x2 : Int32} {h : xH} {r : (Int32 × xH)} (hu3 : u3.category = 1) (hu4 : u4.category = 1) (hf : j154_21 o0 x1 x2 h = some r) : xEv (xTa xs) d 154 (21, [xrv o0, .int x1, .int x2, u3, u4], [], h) (some (.int r.1), r.2) := by
  unfold j154_21 at hf
  refine ev_do i154_21 rfl ?_
  exact j154_22_ok hd hu3 hu4 hf
def fn154 (o0 : Option Nat) (x1 : Int32) (x2 : Int32) (h : xH) : Option (Int32 × xH) := (xcv h o0 11).bind fun _ => (fn149 o0 x1 1 h).bind fun r_1 => (if r_1.1 = 0 then j154_21 o0 x1 x2 r_1.2 else (xcv r_1.2 o0 11).bind fun _ => (fn150 o0 0 r_1.2).bind fun r_3 => (if r_3.1 = 0 then j154_21 o0 x1 x2 r_3.2 else j154_22 o0 x1 x2 1 r_3.2))
theorem fn154_call {xs : List Int32} {d : Nat} (hd : 5 ≤ d) {o0 : Option Nat} {x1 : Int32} {x2 : Int32} {h : xH} {r : (Int32 × xH)} (hf : fn154 o0 x1 x2 h = some r) : xCall (xTa xs) d 154 [xrv o0, .int x1, .int x2] h (some (.int r.1), r.2) := by
  obtain ⟨d, rfl⟩ : ∃ d2, d = d2 + 1 := ⟨d - 1, by omega⟩
  replace hd : 4 ≤ d := by omega
  refine call_of2 (fl := [xrv o0, .int x1, .int x2]) (Ls := [xrv o0, .int x1, .int x2, .float 0, .float 0]) m154 (by simp [xfl, xrv_cat, xc_i, xc_j, xc_a, xc_f]) (Nat.le_of_ble_eq_true rfl) rfl ?_
  unfold fn154 at hf
  refine sh_aload (i' := 0) (n := 1) i154_0 (Or.inr ⟨rfl, by decide⟩) rfl ?_
  refine ev_do i154_1 rfl ?_
  refine ev_do i154_2 rfl ?_
  obtain ⟨_, eu_6, hf⟩ := x_bind hf
  obtain ⟨r_1, er_1, hf⟩ := x_bind hf
  refine sh_inv (as := [.int 1, .int x1]) (z := (some (.int r_1.1), r_1.2)) i154_3 v154_174 (Or.inl ⟨by decide, rfl⟩) m149 rfl (Nat.le_of_ble_eq_true rfl) eu_6 (fn149_call (by omega) er_1) ?_
  refine ev_if (t := 21) i154_6 rfl (fun c_2 => ?_) (fun c_2 => ?_)
  · replace hf := x_pos (show r_1.1 = 0 from c_2) hf
    exact j154_21_ok hd rfl rfl hf
  · replace hf := x_neg (show ¬ r_1.1 = 0 from c_2) hf
    refine sh_aload (i' := 0) (n := 1) i154_9 (Or.inr ⟨rfl, by decide⟩) rfl ?_
    refine ev_do i154_10 rfl ?_
    obtain ⟨_, eu_5, hf⟩ := x_bind hf
    obtain ⟨r_3, er_3, hf⟩ := x_bind hf
    refine sh_inv (as := [.int 0]) (z := (some (.int r_3.1), r_3.2)) i154_11 v154_178 (Or.inl ⟨by decide, rfl⟩) m150 rfl (Nat.le_of_ble_eq_true rfl) eu_5 (fn150_call (by omega) er_3) ?_
    refine ev_if (t := 21) i154_14 rfl (fun c_4 => ?_) (fun c_4 => ?_)
    · replace hf := x_pos (show r_3.1 = 0 from c_4) hf
      exact j154_21_ok hd rfl rfl hf
    · replace hf := x_neg (show ¬ r_3.1 = 0 from c_4) hf
      refine ev_do i154_17 rfl ?_
      refine sh_goto (t := 22) i154_18 rfl ?_
      exact j154_22_ok hd rfl rfl hf
end
section
def j155_184  (o0 : Option Nat) (x1 : Int32) (x2 : Int32) (x3 : Int32) (h : xH) : Option (Int32 × xH) := (xpF h o0 11 1 .int (.int 0)).bind fun h_1 => some (x3, h_1)
theorem j155_184_ok {xs : List Int32} {d : Nat} (hd : 4 ≤ d) {u4 : Value} {u5 : Value} {o0 : Option Nat} {x1 : Int32} {x2 : Int32} {x3 : Int32} {h : xH} {r : (Int32 × xH)} (hu4 : u4.category = 1) (hu5 : u5.category = 1) (hf : j155_184 o0 x1 x2 x3 h = some r) : xEv (xTa xs) d 155 (184, [xrv o0, .int x1, .int x2, .int x3, u4, u5], [], h) (some (.int r.1), r.2) := by
  unfold j155_184 at hf
  refine sh_aload (i' := 0) (n := 1) i155_184 (Or.inr ⟨rfl, by decide⟩) rfl ?_
  refine ev_do i155_185 rfl ?_
  obtain ⟨h_1, eh_1, hf⟩ := x_bind hf
  refine sh_put i155_186 f155_146 (by decide) rfl eh_1 ?_
  refine ev_do i155_189 rfl ?_
  obtain rfl := Option.some.inj hf
  exact sh_iret i155_190 m155 rfl rfl
def l155_132  : Nat → Option Nat → Int32 → Int32 → Int32 → Int32 → Int32 → xH → Option (Int32 × xH)
  | 0 => fun _ _ _ _ _ _ _ => none
  | n + 1 => fun o0 x1 x2 x3 x4 x5 h => (xgI h o0 11 1).bind fun v_1 => (if v_1 ≤ x5 then (xgR h o0 11 9).bind fun a_3 => (xaI h 13 a_3 x1).bind fun v_4 => (xaS h 13 (fun x => x) a_3 x1 (v_4 + 1)).bind fun h_5 => (xgR h_5 o0 11 9).bind fun a_6 => (xaI h_5 13 a_6 x1).bind fun v_7 => j155_184 o0 x1 x2 v_7 h_5 else (xgR h o0 11 10).bind fun a_8 => (xgR h o0 11 0).bind fun a_9 => (xaI h 13 a_9 x5).bind fun v_10 => (xaS h 13 (fun x => x) a_8 ((10 * x4) + x5) v_10).bind fun h_11 => l155_132 n o0 x1 x2 x3 x4 (x5 + 1) h_11)
theorem l155_132_ok {xs : List Int32} {d : Nat} (hd : 4 ≤ d) : ∀ (n : Nat) {o0 : Option Nat} {x1 : Int32} {x2 : Int32} {x3 : Int32} {x4 : Int32} {x5 : Int32} {h : xH} {r : (Int32 × xH)}, l155_132 n o0 x1 x2 x3 x4 x5 h = some r → xEv (xTa xs) d 155 (132, [xrv o0, .int x1, .int x2, .int x3, .int x4, .int x5], [], h) (some (.int r.1), r.2) := by
  intro n
  induction n with
  | zero => intros; rename_i hf; cases hf
  | succ n ih =>
    intro o0 x1 x2 x3 x4 x5 h r hf
    replace hf : ((xgI h o0 11 1).bind fun v_1 => (if v_1 ≤ x5 then (xgR h o0 11 9).bind fun a_3 => (xaI h 13 a_3 x1).bind fun v_4 => (xaS h 13 (fun x => x) a_3 x1 (v_4 + 1)).bind fun h_5 => (xgR h_5 o0 11 9).bind fun a_6 => (xaI h_5 13 a_6 x1).bind fun v_7 => j155_184 o0 x1 x2 v_7 h_5 else (xgR h o0 11 10).bind fun a_8 => (xgR h o0 11 0).bind fun a_9 => (xaI h 13 a_9 x5).bind fun v_10 => (xaS h 13 (fun x => x) a_8 ((10 * x4) + x5) v_10).bind fun h_11 => l155_132 n o0 x1 x2 x3 x4 (x5 + 1) h_11)) = some r := hf
    refine ev_do i155_132 rfl ?_
    refine sh_aload (i' := 0) (n := 1) i155_134 (Or.inr ⟨rfl, by decide⟩) rfl ?_
    obtain ⟨v_1, ev_1, hf⟩ := x_bind hf
    refine sh_getI i155_135 f155_146 ev_1 ?_
    refine ev_icmp (t := 167) i155_138 rfl (fun c_2 => ?_) (fun c_2 => ?_)
    · replace hf := x_pos (show v_1 ≤ x5 from c_2) hf
      refine sh_aload (i' := 0) (n := 1) i155_167 (Or.inr ⟨rfl, by decide⟩) rfl ?_
      obtain ⟨a_3, ea_3, hf⟩ := x_bind hf
      refine sh_getR i155_168 f155_32 ea_3 ?_
      refine ev_do i155_171 rfl ?_
      refine sh_dup2 i155_172 rfl (xrv_cat (a_3)) ?_
      obtain ⟨v_4, ev_4, hf⟩ := x_bind hf
      refine sh_aldI (tg := 13) i155_173 (Or.inl ⟨rfl, rfl⟩) ev_4 ?_
      refine ev_do i155_174 rfl ?_
      refine ev_do i155_175 rfl ?_
      obtain ⟨h_5, eh_5, hf⟩ := x_bind hf
      refine sh_ast (tg := 13) i155_176 (Or.inl ⟨rfl, rfl, rfl⟩) eh_5 ?_
      refine sh_aload (i' := 0) (n := 1) i155_177 (Or.inr ⟨rfl, by decide⟩) rfl ?_
      obtain ⟨a_6, ea_6, hf⟩ := x_bind hf
      refine sh_getR i155_178 f155_32 ea_6 ?_
      refine ev_do i155_181 rfl ?_
      obtain ⟨v_7, ev_7, hf⟩ := x_bind hf
      refine sh_aldI (tg := 13) i155_182 (Or.inl ⟨rfl, rfl⟩) ev_7 ?_
      refine sh_istore (i' := 3) (n := 1) i155_183 (Or.inr ⟨rfl, by decide⟩) (xokst_of (Nat.le_of_ble_eq_true rfl) rfl) ?_
      exact j155_184_ok hd rfl rfl hf
    · replace hf := x_neg (show ¬ v_1 ≤ x5 from c_2) hf
      refine sh_aload (i' := 0) (n := 1) i155_141 (Or.inr ⟨rfl, by decide⟩) rfl ?_
      obtain ⟨a_8, ea_8, hf⟩ := x_bind hf
      refine sh_getR i155_142 f155_35 ea_8 ?_
      refine ev_do i155_145 rfl ?_
      refine ev_do i155_147 rfl ?_
      refine ev_do i155_149 rfl ?_
      refine ev_do i155_150 rfl ?_
      refine ev_do i155_152 rfl ?_
      refine sh_aload (i' := 0) (n := 1) i155_153 (Or.inr ⟨rfl, by decide⟩) rfl ?_
      obtain ⟨a_9, ea_9, hf⟩ := x_bind hf
      refine sh_getR i155_154 f155_9 ea_9 ?_
      refine ev_do i155_157 rfl ?_
      obtain ⟨v_10, ev_10, hf⟩ := x_bind hf
      refine sh_aldI (tg := 13) i155_159 (Or.inl ⟨rfl, rfl⟩) ev_10 ?_
      obtain ⟨h_11, eh_11, hf⟩ := x_bind hf
      refine sh_ast (tg := 13) i155_160 (Or.inl ⟨rfl, rfl, rfl⟩) eh_11 ?_
      refine sh_inc (i' := 5) i155_161 rfl (xokst_of (Nat.le_of_ble_eq_true rfl) rfl) rfl ?_
      refine sh_goto (t := 132) i155_164 rfl ?_
      exact ih hf
def j155_91  (o0 : Option Nat) (x1 : Int32) (x2 : Int32) (x3 : Int32) (s0 : Int32) (h : xH) : Option (Int32 × xH) := (if x2 = 0 then j155_184 o0 x1 x2 s0 h else (xgR h o0 11 9).bind fun a_2 => (xaI h 13 a_2 x1).bind fun v_3 => (if 4 ≤ v_3 then j155_184 o0 x1 x2 s0 h else (xgR h o0 11 9).bind fun a_5 => (xaI h 13 a_5 x1).bind fun v_6 => (xgR h o0 11 11).bind fun a_7 => (xgI h o0 11 1).bind fun v_8 => (xaS h 13 (fun x => x) a_7 ((4 * x1) + v_6) v_8).bind fun h_9 => l155_132 xFuel o0 x1 x2 s0 ((4 * x1) + v_6) 0 h_9))
theorem j155_91_ok {xs : List Int32} {d : Nat} (hd : 4 ≤ d) {u4 : Value} {u5 : Value} {o0 : Option Nat} {x1 : Int32} {x2 : Int32} {x3 : Int32} {s0 : Int32} {h : xH} {r : (Int32 × xH)} (hu4 : u4.category = 1) (hu5 : u5.category = 1) (hf : j155_91 o0 x1 x2 x3 s0 h = some r) : xEv (xTa xs) d 155 (91, [xrv o0, .int x1, .int x2, .int x3, u4, u5], [.int s0], h) (some (.int r.1), r.2) := by
  unfold j155_91 at hf
  refine sh_istore (i' := 3) (n := 1) i155_91 (Or.inr ⟨rfl, by decide⟩) (xokst_of (Nat.le_of_ble_eq_true rfl) rfl) ?_
  refine ev_do i155_92 rfl ?_
  refine ev_if (t := 184) i155_93 rfl (fun c_1 => ?_) (fun c_1 => ?_)
  · replace hf := x_pos (show x2 = 0 from c_1) hf
    exact j155_184_ok hd hu4 hu5 hf
  · replace hf := x_neg (show ¬ x2 = 0 from c_1) hf
    refine sh_aload (i' := 0) (n := 1) i155_96 (Or.inr ⟨rfl, by decide⟩) rfl ?_
    obtain ⟨a_2, ea_2, hf⟩ := x_bind hf
    refine sh_getR i155_97 f155_32 ea_2 ?_
    refine ev_do i155_100 rfl ?_
    obtain ⟨v_3, ev_3, hf⟩ := x_bind hf
    refine sh_aldI (tg := 13) i155_101 (Or.inl ⟨rfl, rfl⟩) ev_3 ?_
    refine ev_do i155_102 rfl ?_
    refine ev_icmp (t := 184) i155_103 rfl (fun c_4 => ?_) (fun c_4 => ?_)
    · replace hf := x_pos (show 4 ≤ v_3 from c_4) hf
      exact j155_184_ok hd hu4 hu5 hf
    · replace hf := x_neg (show ¬ 4 ≤ v_3 from c_4) hf
      refine ev_do i155_106 rfl ?_
      refine ev_do i155_107 rfl ?_
      refine ev_do i155_108 rfl ?_
      refine sh_aload (i' := 0) (n := 1) i155_109 (Or.inr ⟨rfl, by decide⟩) rfl ?_
      obtain ⟨a_5, ea_5, hf⟩ := x_bind hf
      refine sh_getR i155_110 f155_32 ea_5 ?_
      refine ev_do i155_113 rfl ?_
      obtain ⟨v_6, ev_6, hf⟩ := x_bind hf
      refine sh_aldI (tg := 13) i155_114 (Or.inl ⟨rfl, rfl⟩) ev_6 ?_
      refine ev_do i155_115 rfl ?_
      refine sh_istore (i' := 4) (n := 2) i155_116 (Or.inl rfl) (xokst_of (Nat.le_of_ble_eq_true rfl) rfl) ?_
      refine sh_aload (i' := 0) (n := 1) i155_118 (Or.inr ⟨rfl, by decide⟩) rfl ?_
      obtain ⟨a_7, ea_7, hf⟩ := x_bind hf
      refine sh_getR i155_119 f155_38 ea_7 ?_
      refine ev_do i155_122 rfl ?_
      refine sh_aload (i' := 0) (n := 1) i155_124 (Or.inr ⟨rfl, by decide⟩) rfl ?_
      obtain ⟨v_8, ev_8, hf⟩ := x_bind hf
      refine sh_getI i155_125 f155_146 ev_8 ?_
      obtain ⟨h_9, eh_9, hf⟩ := x_bind hf
      refine sh_ast (tg := 13) i155_128 (Or.inl ⟨rfl, rfl, rfl⟩) eh_9 ?_
      refine ev_do i155_129 rfl ?_
      refine sh_istore (i' := 5) (n := 2) i155_130 (Or.inl rfl) (xokst_of (Nat.le_of_ble_eq_true rfl) rfl) ?_
      exact l155_132_ok hd xFuel hf
def j155_81  (o0 : Option Nat) (x1 : Int32) (x2 : Int32) (x3 : Int32) (h : xH) : Option (Int32 × xH) := (if x2 = 0 then j155_91 o0 x1 x2 x3 (-1) h else j155_91 o0 x1 x2 x3 (-3) h)
theorem j155_81_ok {xs : List Int32} {d : Nat} (hd : 4 ≤ d) {u4 : Value} {u5 : Value} {o0 : Option Nat} {x1 : Int32} {x2 : Int32} {x3 : Int32} {h : xH} {r : (Int32 × xH)} (hu4 : u4.category = 1) (hu5 : u5.category = 1) (hf : j155_81 o0 x1 x2 x3 h = some r) : xEv (xTa xs) d 155 (81, [xrv o0, .int x1, .int x2, .int x3, u4, u5], [], h) (some (.int r.1), r.2) := by
  unfold j155_81 at hf
  refine ev_do i155_81 rfl ?_
  refine ev_if (t := 90) i155_82 rfl (fun c_1 => ?_) (fun c_1 => ?_)
  · replace hf := x_pos (show x2 = 0 from c_1) hf
    refine ev_do i155_90 rfl ?_
    exact j155_91_ok hd hu4 hu5 hf
  · replace hf := x_neg (show ¬ x2 = 0 from c_1) hf
    refine ev_do i155_85 rfl ?_
    refine sh_goto (t := 91) i155_87 rfl ?_
    exact j155_91_ok hd hu4 hu5 hf
def j155_74 (k25 : Option Nat → Int32 → Int32 → Int32 → xH → Option (Int32 × xH)) (o0 : Option Nat) (x1 : Int32) (x2 : Int32) (x3 : Int32) (x4 : Int32) (s0 : Int32) (h : xH) : Option (Int32 × xH) := k25 o0 x1 s0 (x3 + 1) h
theorem j155_74_ok {xs : List Int32} {d : Nat} (hd : 4 ≤ d) {k25 : Option Nat → Int32 → Int32 → Int32 → xH → Option (Int32 × xH)} (hk25 : ∀ {u4 : Value} {u5 : Value} {o0 : Option Nat} {x1 : Int32} {x2 : Int32} {x3 : Int32} {h : xH} {r : (Int32 × xH)}, u4.category = 1 → u5.category = 1 → k25 o0 x1 x2 x3 h = some r → xEv (xTa xs) d 155 (25, [xrv o0, .int x1, .int x2, .int x3, u4, u5], [], h) (some (.int r.1), r.2)) {u5 : Value} {o0 : Option Nat} {x1 : Int32} {x2 : Int32} {x3 : Int32} {x4 : Int32} {s0 : Int32} {h : xH} {r : (Int32 × xH)} (hu5 : u5.category = 1) (hf : j155_74 k25 o0 x1 x2 x3 x4 s0 h = some r) : xEv (xTa xs) d 155 (74, [xrv o0, .int x1, .int x2, .int x3, .int x4, u5], [.int s0], h) (some (.int r.1), r.2) := by
  unfold j155_74 at hf
  refine sh_istore (i' := 2) (n := 1) i155_74 (Or.inr ⟨rfl, by decide⟩) (xokst_of (Nat.le_of_ble_eq_true rfl) rfl) ?_
  refine sh_inc (i' := 3) i155_75 rfl (xokst_of (Nat.le_of_ble_eq_true rfl) rfl) rfl ?_
  refine sh_goto (t := 25) i155_78 rfl ?_
  exact hk25 rfl hu5 hf
def l155_25  : Nat → Option Nat → Int32 → Int32 → Int32 → xH → Option (Int32 × xH)
  | 0 => fun _ _ _ _ _ => none
  | n + 1 => fun o0 x1 x2 x3 h => (if x2 = 0 then j155_81 o0 x1 x2 x3 h else (xgR h o0 11 9).bind fun a_2 => (xaI h 13 a_2 x1).bind fun v_3 => (if v_3 ≤ x3 then j155_81 o0 x1 x2 x3 h else (xgR h o0 11 10).bind fun a_5 => (xgR h o0 11 11).bind fun a_6 => (xaI h 13 a_6 ((4 * x1) + x3)).bind fun v_7 => (xcv h o0 11).bind fun _ => (fn151 o0 a_5 (10 * ((4 * x1) + x3)) v_7 h).bind fun r_8 => (if r_8.1 = 0 then j155_74 (l155_25 n) o0 x1 x2 x3 ((4 * x1) + x3) 1 r_8.2 else j155_74 (l155_25 n) o0 x1 x2 x3 ((4 * x1) + x3) 0 r_8.2)))
theorem l155_25_ok {xs : List Int32} {d : Nat} (hd : 4 ≤ d) : ∀ (n : Nat) {u4 : Value} {u5 : Value} {o0 : Option Nat} {x1 : Int32} {x2 : Int32} {x3 : Int32} {h : xH} {r : (Int32 × xH)} (hu4 : u4.category = 1) (hu5 : u5.category = 1), l155_25 n o0 x1 x2 x3 h = some r → xEv (xTa xs) d 155 (25, [xrv o0, .int x1, .int x2, .int x3, u4, u5], [], h) (some (.int r.1), r.2) := by
  intro n
  induction n with
  | zero => intros; rename_i hf; cases hf
  | succ n ih =>
    intro u4 u5 o0 x1 x2 x3 h r hu4 hu5 hf
    replace hf : ((if x2 = 0 then j155_81 o0 x1 x2 x3 h else (xgR h o0 11 9).bind fun a_2 => (xaI h 13 a_2 x1).bind fun v_3 => (if v_3 ≤ x3 then j155_81 o0 x1 x2 x3 h else (xgR h o0 11 10).bind fun a_5 => (xgR h o0 11 11).bind fun a_6 => (xaI h 13 a_6 ((4 * x1) + x3)).bind fun v_7 => (xcv h o0 11).bind fun _ => (fn151 o0 a_5 (10 * ((4 * x1) + x3)) v_7 h).bind fun r_8 => (if r_8.1 = 0 then j155_74 (l155_25 n) o0 x1 x2 x3 ((4 * x1) + x3) 1 r_8.2 else j155_74 (l155_25 n) o0 x1 x2 x3 ((4 * x1) + x3) 0 r_8.2)))) = some r := hf
    refine ev_do i155_25 rfl ?_
    refine ev_if (t := 81) i155_26 rfl (fun c_1 => ?_) (fun c_1 => ?_)
    · replace hf := x_pos (show x2 = 0 from c_1) hf
      exact j155_81_ok hd hu4 hu5 hf
    · replace hf := x_neg (show ¬ x2 = 0 from c_1) hf
      refine ev_do i155_29 rfl ?_
      refine sh_aload (i' := 0) (n := 1) i155_30 (Or.inr ⟨rfl, by decide⟩) rfl ?_
      obtain ⟨a_2, ea_2, hf⟩ := x_bind hf
      refine sh_getR i155_31 f155_32 ea_2 ?_
      refine ev_do i155_34 rfl ?_
      obtain ⟨v_3, ev_3, hf⟩ := x_bind hf
      refine sh_aldI (tg := 13) i155_35 (Or.inl ⟨rfl, rfl⟩) ev_3 ?_
      refine ev_icmp (t := 81) i155_36 rfl (fun c_4 => ?_) (fun c_4 => ?_)
      · replace hf := x_pos (show v_3 ≤ x3 from c_4) hf
        exact j155_81_ok hd hu4 hu5 hf
      · replace hf := x_neg (show ¬ v_3 ≤ x3 from c_4) hf
        refine ev_do i155_39 rfl ?_
        refine ev_do i155_40 rfl ?_
        refine ev_do i155_41 rfl ?_
        refine ev_do i155_42 rfl ?_
        refine ev_do i155_43 rfl ?_
        refine sh_istore (i' := 4) (n := 2) i155_44 (Or.inl rfl) (xokst_of (Nat.le_of_ble_eq_true rfl) rfl) ?_
        refine sh_aload (i' := 0) (n := 1) i155_46 (Or.inr ⟨rfl, by decide⟩) rfl ?_
        refine sh_aload (i' := 0) (n := 1) i155_47 (Or.inr ⟨rfl, by decide⟩) rfl ?_
        obtain ⟨a_5, ea_5, hf⟩ := x_bind hf
        refine sh_getR i155_48 f155_35 ea_5 ?_
        refine ev_do i155_51 rfl ?_
        refine ev_do i155_53 rfl ?_
        refine ev_do i155_55 rfl ?_
        refine sh_aload (i' := 0) (n := 1) i155_56 (Or.inr ⟨rfl, by decide⟩) rfl ?_
        obtain ⟨a_6, ea_6, hf⟩ := x_bind hf
        refine sh_getR i155_57 f155_38 ea_6 ?_
        refine ev_do i155_60 rfl ?_
        obtain ⟨v_7, ev_7, hf⟩ := x_bind hf
        refine sh_aldI (tg := 13) i155_62 (Or.inl ⟨rfl, rfl⟩) ev_7 ?_
        obtain ⟨_, eu_10, hf⟩ := x_bind hf
        obtain ⟨r_8, er_8, hf⟩ := x_bind hf
        refine sh_inv (as := [.int v_7, .int (10 * ((4 * x1) + x3)), xrv a_5]) (z := (some (.int r_8.1), r_8.2)) i155_63 v155_182 (Or.inl ⟨by decide, rfl⟩) m151 rfl (Nat.le_of_ble_eq_true rfl) eu_10 (fn151_call (by omega) er_8) ?_
        refine ev_if (t := 73) i155_66 rfl (fun c_9 => ?_) (fun c_9 => ?_)
        · replace hf := x_neg (show ¬ r_8.1 = 0 from c_9) hf
          refine ev_do i155_73 rfl ?_
          exact j155_74_ok hd ih hu5 hf
        · replace hf := x_pos (show r_8.1 = 0 from Decidable.byContradiction (fun h9 => c_9 h9)) hf
          refine ev_do i155_69 rfl ?_
          refine sh_goto (t := 74) i155_70 rfl ?_
          exact j155_74_ok hd ih hu5 hf
def j155_22  (o0 : Option Nat) (x1 : Int32) (s0 : Int32) (h : xH) : Option (Int32 × xH) := l155_25 xFuel o0 x1 s0 0 h
theorem j155_22_ok {xs : List Int32} {d : Nat} (hd : 4 ≤ d) {u2 : Value} {u3 : Value} {u4 : Value} {u5 : Value} {o0 : Option Nat} {x1 : Int32} {s0 : Int32} {h : xH} {r : (Int32 × xH)} (hu2 : u2.category = 1) (hu3 : u3.category = 1) (hu4 : u4.category = 1) (hu5 : u5.category = 1) (hf : j155_22 o0 x1 s0 h = some r) : xEv (xTa xs) d 155 (22, [xrv o0, .int x1, u2, u3, u4, u5], [.int s0], h) (some (.int r.1), r.2) := by
  unfold j155_22 at hf
  refine sh_istore (i' := 2) (n := 1) i155_22 (Or.inr ⟨rfl, by decide⟩) (xokst_of (Nat.le_of_ble_eq_true rfl) rfl) ?_
  refine ev_do i155_23 rfl ?_
  refine sh_istore (i' := 3) (n := 1) i155_24 (Or.inr ⟨rfl, by decide⟩) (xokst_of (Nat.le_of_ble_eq_true rfl) rfl) ?_
  exact l155_25_ok hd xFuel hu4 hu5 hf
def j155_21  (o0 : Option Nat) (x1 : Int32) (h : xH) : Option (Int32 × xH) := j155_22 o0 x1 0 h
theorem j155_21_ok {xs : List Int32} {d : Nat} (hd : 4 ≤ d) {u2 : Value} {u3 : Value} {u4 : Value} {u5 : Value} {o0 : Option Nat} {x1 : Int32} {h : xH} {r : (Int32 × xH)} (hu2 : u2.category = 1) (hu3 : u3.category = 1) (hu4 : u4.category = 1) (hu5 : u5.category = 1) (hf : j155_21 o0 x1 h = some r) : xEv (xTa xs) d 155 (21, [xrv o0, .int x1, u2, u3, u4, u5], [], h) (some (.int r.1), r.2) := by
  unfold j155_21 at hf
  refine ev_do i155_21 rfl ?_
  exact j155_22_ok hd hu2 hu3 hu4 hu5 hf
def fn155 (o0 : Option Nat) (x1 : Int32) (h : xH) : Option (Int32 × xH) := (xcv h o0 11).bind fun _ => (fn149 o0 x1 0 h).bind fun r_1 => (if r_1.1 = 0 then j155_21 o0 x1 r_1.2 else (xcv r_1.2 o0 11).bind fun _ => (fn150 o0 0 r_1.2).bind fun r_3 => (if r_3.1 = 0 then j155_21 o0 x1 r_3.2 else j155_22 o0 x1 1 r_3.2))
theorem fn155_call {xs : List Int32} {d : Nat} (hd : 5 ≤ d) {o0 : Option Nat} {x1 : Int32} {h : xH} {r : (Int32 × xH)} (hf : fn155 o0 x1 h = some r) : xCall (xTa xs) d 155 [xrv o0, .int x1] h (some (.int r.1), r.2) := by
  obtain ⟨d, rfl⟩ : ∃ d2, d = d2 + 1 := ⟨d - 1, by omega⟩
  replace hd : 4 ≤ d := by omega
  refine call_of2 (fl := [xrv o0, .int x1]) (Ls := [xrv o0, .int x1, .float 0, .float 0, .float 0, .float 0]) m155 (by simp [xfl, xrv_cat, xc_i, xc_j, xc_a, xc_f]) (Nat.le_of_ble_eq_true rfl) rfl ?_
  unfold fn155 at hf
  refine sh_aload (i' := 0) (n := 1) i155_0 (Or.inr ⟨rfl, by decide⟩) rfl ?_
  refine ev_do i155_1 rfl ?_
  refine ev_do i155_2 rfl ?_
  obtain ⟨_, eu_6, hf⟩ := x_bind hf
  obtain ⟨r_1, er_1, hf⟩ := x_bind hf
  refine sh_inv (as := [.int 0, .int x1]) (z := (some (.int r_1.1), r_1.2)) i155_3 v155_174 (Or.inl ⟨by decide, rfl⟩) m149 rfl (Nat.le_of_ble_eq_true rfl) eu_6 (fn149_call (by omega) er_1) ?_
  refine ev_if (t := 21) i155_6 rfl (fun c_2 => ?_) (fun c_2 => ?_)
  · replace hf := x_pos (show r_1.1 = 0 from c_2) hf
    exact j155_21_ok hd rfl rfl rfl rfl hf
  · replace hf := x_neg (show ¬ r_1.1 = 0 from c_2) hf
    refine sh_aload (i' := 0) (n := 1) i155_9 (Or.inr ⟨rfl, by decide⟩) rfl ?_
    refine ev_do i155_10 rfl ?_
    obtain ⟨_, eu_5, hf⟩ := x_bind hf
    obtain ⟨r_3, er_3, hf⟩ := x_bind hf
    refine sh_inv (as := [.int 0]) (z := (some (.int r_3.1), r_3.2)) i155_11 v155_178 (Or.inl ⟨by decide, rfl⟩) m150 rfl (Nat.le_of_ble_eq_true rfl) eu_5 (fn150_call (by omega) er_3) ?_
    refine ev_if (t := 21) i155_14 rfl (fun c_4 => ?_) (fun c_4 => ?_)
    · replace hf := x_pos (show r_3.1 = 0 from c_4) hf
      exact j155_21_ok hd rfl rfl rfl rfl hf
    · replace hf := x_neg (show ¬ r_3.1 = 0 from c_4) hf
      refine ev_do i155_17 rfl ?_
      refine sh_goto (t := 22) i155_18 rfl ?_
      exact j155_22_ok hd rfl rfl rfl rfl hf
end
section
def j158_67  (o0 : Option Nat) (x1 : Int32) (o2 : Option Nat) (x3 : Int32) (x4 : Int32) (x5 : Int32) (x6 : Int32) (h : xH) : Option (Int32 × xH) := (if x5 &&& 1 = x5 then some (x5, h) else none)
theorem j158_67_ok {xs : List Int32} {d : Nat} (hd : 1 ≤ d) {o0 : Option Nat} {x1 : Int32} {o2 : Option Nat} {x3 : Int32} {x4 : Int32} {x5 : Int32} {x6 : Int32} {h : xH} {r : (Int32 × xH)} (hf : j158_67 o0 x1 o2 x3 x4 x5 x6 h = some r) : xEv (xTa xs) d 158 (67, [xrv o0, .int x1, xrv o2, .int x3, .int x4, .int x5, .int x6], [], h) (some (.int r.1), r.2) := by
  unfold j158_67 at hf
  refine ev_do i158_67 rfl ?_
  by_cases c_1 : x5 &&& 1 = x5
  · replace hf := x_pos c_1 hf
    obtain rfl := Option.some.inj hf
    exact sh_iret i158_69 m158 rfl (congrArg Value.int c_1)
  · replace hf := x_neg c_1 hf
    cases hf
def j158_59 (k21 : Option Nat → Int32 → Option Nat → Int32 → Int32 → Int32 → Int32 → xH → Option (Int32 × xH)) (o0 : Option Nat) (x1 : Int32) (o2 : Option Nat) (x3 : Int32) (x4 : Int32) (x5 : Int32) (x6 : Int32) (s0 : Int32) (h : xH) : Option (Int32 × xH) := k21 o0 x1 o2 x3 x4 s0 (x6 + 1) h
theorem j158_59_ok {xs : List Int32} {d : Nat} (hd : 1 ≤ d) {k21 : Option Nat → Int32 → Option Nat → Int32 → Int32 → Int32 → Int32 → xH → Option (Int32 × xH)} (hk21 : ∀ {o0 : Option Nat} {x1 : Int32} {o2 : Option Nat} {x3 : Int32} {x4 : Int32} {x5 : Int32} {x6 : Int32} {h : xH} {r : (Int32 × xH)}, k21 o0 x1 o2 x3 x4 x5 x6 h = some r → xEv (xTa xs) d 158 (21, [xrv o0, .int x1, xrv o2, .int x3, .int x4, .int x5, .int x6], [], h) (some (.int r.1), r.2)) {o0 : Option Nat} {x1 : Int32} {o2 : Option Nat} {x3 : Int32} {x4 : Int32} {x5 : Int32} {x6 : Int32} {s0 : Int32} {h : xH} {r : (Int32 × xH)} (hf : j158_59 k21 o0 x1 o2 x3 x4 x5 x6 s0 h = some r) : xEv (xTa xs) d 158 (59, [xrv o0, .int x1, xrv o2, .int x3, .int x4, .int x5, .int x6], [.int s0], h) (some (.int r.1), r.2) := by
  unfold j158_59 at hf
  refine sh_istore (i' := 5) (n := 2) i158_59 (Or.inl rfl) (xokst_of (Nat.le_of_ble_eq_true rfl) rfl) ?_
  refine sh_inc (i' := 6) i158_61 rfl (xokst_of (Nat.le_of_ble_eq_true rfl) rfl) rfl ?_
  refine sh_goto (t := 21) i158_64 rfl ?_
  exact hk21 hf
def l158_21  : Nat → Option Nat → Int32 → Option Nat → Int32 → Int32 → Int32 → Int32 → xH → Option (Int32 × xH)
  | 0 => fun _ _ _ _ _ _ _ _ => none
  | n + 1 => fun o0 x1 o2 x3 x4 x5 x6 h => (if x4 ≤ x6 then j158_67 o0 x1 o2 x3 x4 x5 x6 h else (if x5 = 0 then j158_67 o0 x1 o2 x3 x4 x5 x6 h else (xgR h o0 11 7).bind fun a_3 => (xaI h 13 a_3 ((10 * x1) + x6)).bind fun v_4 => (xaI h 13 o2 (x3 + x6)).bind fun v_5 => (if v_4 = v_5 then j158_59 (l158_21 n) o0 x1 o2 x3 x4 x5 x6 1 h else j158_59 (l158_21 n) o0 x1 o2 x3 x4 x5 x6 0 h)))
theorem l158_21_ok {xs : List Int32} {d : Nat} (hd : 1 ≤ d) : ∀ (n : Nat) {o0 : Option Nat} {x1 : Int32} {o2 : Option Nat} {x3 : Int32} {x4 : Int32} {x5 : Int32} {x6 : Int32} {h : xH} {r : (Int32 × xH)}, l158_21 n o0 x1 o2 x3 x4 x5 x6 h = some r → xEv (xTa xs) d 158 (21, [xrv o0, .int x1, xrv o2, .int x3, .int x4, .int x5, .int x6], [], h) (some (.int r.1), r.2) := by
  intro n
  induction n with
  | zero => intros; rename_i hf; cases hf
  | succ n ih =>
    intro o0 x1 o2 x3 x4 x5 x6 h r hf
    replace hf : ((if x4 ≤ x6 then j158_67 o0 x1 o2 x3 x4 x5 x6 h else (if x5 = 0 then j158_67 o0 x1 o2 x3 x4 x5 x6 h else (xgR h o0 11 7).bind fun a_3 => (xaI h 13 a_3 ((10 * x1) + x6)).bind fun v_4 => (xaI h 13 o2 (x3 + x6)).bind fun v_5 => (if v_4 = v_5 then j158_59 (l158_21 n) o0 x1 o2 x3 x4 x5 x6 1 h else j158_59 (l158_21 n) o0 x1 o2 x3 x4 x5 x6 0 h)))) = some r := hf
    refine ev_do i158_21 rfl ?_
    refine ev_do i158_23 rfl ?_
    refine ev_icmp (t := 67) i158_25 rfl (fun c_1 => ?_) (fun c_1 => ?_)
    · replace hf := x_pos (show x4 ≤ x6 from c_1) hf
      exact j158_67_ok hd hf
    · replace hf := x_neg (show ¬ x4 ≤ x6 from c_1) hf
      refine ev_do i158_28 rfl ?_
      refine ev_if (t := 67) i158_30 rfl (fun c_2 => ?_) (fun c_2 => ?_)
      · replace hf := x_pos (show x5 = 0 from c_2) hf
        exact j158_67_ok hd hf
      · replace hf := x_neg (show ¬ x5 = 0 from c_2) hf
        refine sh_aload (i' := 0) (n := 1) i158_33 (Or.inr ⟨rfl, by decide⟩) rfl ?_
        obtain ⟨a_3, ea_3, hf⟩ := x_bind hf
        refine sh_getR i158_34 f158_26 ea_3 ?_
        refine ev_do i158_37 rfl ?_
        refine ev_do i158_39 rfl ?_
        refine ev_do i158_40 rfl ?_
        refine ev_do i158_41 rfl ?_
        refine ev_do i158_43 rfl ?_
        obtain ⟨v_4, ev_4, hf⟩ := x_bind hf
        refine sh_aldI (tg := 13) i158_44 (Or.inl ⟨rfl, rfl⟩) ev_4 ?_
        refine sh_aload (i' := 2) (n := 1) i158_45 (Or.inr ⟨rfl, by decide⟩) rfl ?_
        refine ev_do i158_46 rfl ?_
        refine ev_do i158_47 rfl ?_
        refine ev_do i158_49 rfl ?_
        obtain ⟨v_5, ev_5, hf⟩ := x_bind hf
        refine sh_aldI (tg := 13) i158_50 (Or.inl ⟨rfl, rfl⟩) ev_5 ?_
        refine ev_icmp (t := 58) i158_51 rfl (fun c_6 => ?_) (fun c_6 => ?_)
        · replace hf := x_neg (show ¬ v_4 = v_5 from c_6) hf
          refine ev_do i158_58 rfl ?_
          exact j158_59_ok hd ih hf
        · replace hf := x_pos (show v_4 = v_5 from Decidable.byContradiction (fun h9 => c_6 h9)) hf
          refine ev_do i158_54 rfl ?_
          refine sh_goto (t := 59) i158_55 rfl ?_
          exact j158_59_ok hd ih hf
def j158_16  (o0 : Option Nat) (x1 : Int32) (o2 : Option Nat) (x3 : Int32) (x4 : Int32) (s0 : Int32) (h : xH) : Option (Int32 × xH) := l158_21 xFuel o0 x1 o2 x3 x4 s0 0 h
theorem j158_16_ok {xs : List Int32} {d : Nat} (hd : 1 ≤ d) {u5 : Value} {u6 : Value} {o0 : Option Nat} {x1 : Int32} {o2 : Option Nat} {x3 : Int32} {x4 : Int32} {s0 : Int32} {h : xH} {r : (Int32 × xH)} (hu5 : u5.category = 1) (hu6 : u6.category = 1) (hf : j158_16 o0 x1 o2 x3 x4 s0 h = some r) : xEv (xTa xs) d 158 (16, [xrv o0, .int x1, xrv o2, .int x3, .int x4, u5, u6], [.int s0], h) (some (.int r.1), r.2) := by
  unfold j158_16 at hf
  refine sh_istore (i' := 5) (n := 2) i158_16 (Or.inl rfl) (xokst_of (Nat.le_of_ble_eq_true rfl) rfl) ?_
  refine ev_do i158_18 rfl ?_
  refine sh_istore (i' := 6) (n := 2) i158_19 (Or.inl rfl) (xokst_of (Nat.le_of_ble_eq_true rfl) rfl) ?_
  exact l158_21_ok hd xFuel hf
def fn158 (o0 : Option Nat) (x1 : Int32) (o2 : Option Nat) (x3 : Int32) (x4 : Int32) (h : xH) : Option (Int32 × xH) := (xgR h o0 11 8).bind fun a_1 => (xaI h 13 a_1 x1).bind fun v_2 => (if v_2 = x4 then j158_16 o0 x1 o2 x3 x4 1 h else j158_16 o0 x1 o2 x3 x4 0 h)
theorem fn158_call {xs : List Int32} {d : Nat} (hd : 2 ≤ d) {o0 : Option Nat} {x1 : Int32} {o2 : Option Nat} {x3 : Int32} {x4 : Int32} {h : xH} {r : (Int32 × xH)} (hf : fn158 o0 x1 o2 x3 x4 h = some r) : xCall (xTa xs) d 158 [xrv o0, .int x1, xrv o2, .int x3, .int x4] h (some (.int r.1), r.2) := by
  obtain ⟨d, rfl⟩ : ∃ d2, d = d2 + 1 := ⟨d - 1, by omega⟩
  replace hd : 1 ≤ d := by omega
  refine call_of2 (fl := [xrv o0, .int x1, xrv o2, .int x3, .int x4]) (Ls := [xrv o0, .int x1, xrv o2, .int x3, .int x4, .float 0, .float 0]) m158 (by simp [xfl, xrv_cat, xc_i, xc_j, xc_a, xc_f]) (Nat.le_of_ble_eq_true rfl) rfl ?_
  unfold fn158 at hf
  refine sh_aload (i' := 0) (n := 1) i158_0 (Or.inr ⟨rfl, by decide⟩) rfl ?_
  obtain ⟨a_1, ea_1, hf⟩ := x_bind hf
  refine sh_getR i158_1 f158_29 ea_1 ?_
  refine ev_do i158_4 rfl ?_
  obtain ⟨v_2, ev_2, hf⟩ := x_bind hf
  refine sh_aldI (tg := 13) i158_5 (Or.inl ⟨rfl, rfl⟩) ev_2 ?_
  refine ev_do i158_6 rfl ?_
  refine ev_icmp (t := 15) i158_8 rfl (fun c_3 => ?_) (fun c_3 => ?_)
  · replace hf := x_neg (show ¬ v_2 = x4 from c_3) hf
    refine ev_do i158_15 rfl ?_
    exact j158_16_ok hd rfl rfl hf
  · replace hf := x_pos (show v_2 = x4 from Decidable.byContradiction (fun h9 => c_3 h9)) hf
    refine ev_do i158_11 rfl ?_
    refine sh_goto (t := 16) i158_12 rfl ?_
    exact j158_16_ok hd rfl rfl hf
end
section
def j157_59 (k3 : Option Nat → Int32 → Option Nat → Int32 → Int32 → Int32 → xH → Option (Int32 × xH)) (k12 : Option Nat → Int32 → Option Nat → Int32 → Int32 → Int32 → Int32 → xH → Option (Int32 × xH)) (o0 : Option Nat) (x1 : Int32) (o2 : Option Nat) (x3 : Int32) (x4 : Int32) (x5 : Int32) (x6 : Int32) (h : xH) : Option (Int32 × xH) := k12 o0 x1 o2 x3 x4 x5 (x6 + 1) h
theorem j157_59_ok {xs : List Int32} {d : Nat} (hd : 2 ≤ d) {k3 : Option Nat → Int32 → Option Nat → Int32 → Int32 → Int32 → xH → Option (Int32 × xH)} {k12 : Option Nat → Int32 → Option Nat → Int32 → Int32 → Int32 → Int32 → xH → Option (Int32 × xH)} (hk3 : ∀ {u6 : Value} {o0 : Option Nat} {x1 : Int32} {o2 : Option Nat} {x3 : Int32} {x4 : Int32} {x5 : Int32} {h : xH} {r : (Int32 × xH)}, u6.category = 1 → k3 o0 x1 o2 x3 x4 x5 h = some r → xEv (xTa xs) d 157 (3, [xrv o0, .int x1, xrv o2, .int x3, .int x4, .int x5, u6], [], h) (some (.int r.1), r.2)) (hk12 : ∀ {o0 : Option Nat} {x1 : Int32} {o2 : Option Nat} {x3 : Int32} {x4 : Int32} {x5 : Int32} {x6 : Int32} {h : xH} {r : (Int32 × xH)}, k12 o0 x1 o2 x3 x4 x5 x6 h = some r → xEv (xTa xs) d 157 (12, [xrv o0, .int x1, xrv o2, .int x3, .int x4, .int x5, .int x6], [], h) (some (.int r.1), r.2)) {o0 : Option Nat} {x1 : Int32} {o2 : Option Nat} {x3 : Int32} {x4 : Int32} {x5 : Int32} {x6 : Int32} {h : xH} {r : (Int32 × xH)} (hf : j157_59 k3 k12 o0 x1 o2 x3 x4 x5 x6 h = some r) : xEv (xTa xs) d 157 (59, [xrv o0, .int x1, xrv o2, .int x3, .int x4, .int x5, .int x6], [], h) (some (.int r.1), r.2) := by
  unfold j157_59 at hf
  refine sh_inc (i' := 6) i157_59 rfl (xokst_of (Nat.le_of_ble_eq_true rfl) rfl) rfl ?_
  refine sh_goto (t := 12) i157_62 rfl ?_
  exact hk12 hf
def l157_12 (k3 : Option Nat → Int32 → Option Nat → Int32 → Int32 → Int32 → xH → Option (Int32 × xH)) : Nat → Option Nat → Int32 → Option Nat → Int32 → Int32 → Int32 → Int32 → xH → Option (Int32 × xH)
  | 0 => fun _ _ _ _ _ _ _ _ => none
  | n + 1 => fun o0 x1 o2 x3 x4 x5 x6 h => (xgI h o0 11 2).bind fun v_1 => (if v_1 ≤ x6 then (xgR h o0 11 5).bind fun a_3 => (xaI h 13 a_3 x5).bind fun v_4 => k3 o0 x1 o2 x3 x4 v_4 h else (xgR h o0 11 3).bind fun a_5 => (xaI h 14 a_5 x6).bind fun v_6 => (if v_6 = 0 then (xgR h o0 11 4).bind fun a_8 => (xaI h 13 a_8 x6).bind fun v_9 => (if v_9 = x5 then (xcv h o0 11).bind fun _ => (fn158 o0 x6 o2 x3 x4 h).bind fun r_11 => (if r_11.1 = 0 then j157_59 k3 (l157_12 k3 n) o0 x1 o2 x3 x4 x5 x6 r_11.2 else some (x6, r_11.2)) else j157_59 k3 (l157_12 k3 n) o0 x1 o2 x3 x4 x5 x6 h) else j157_59 k3 (l157_12 k3 n) o0 x1 o2 x3 x4 x5 x6 h))
theorem l157_12_ok {xs : List Int32} {d : Nat} (hd : 2 ≤ d) {k3 : Option Nat → Int32 → Option Nat → Int32 → Int32 → Int32 → xH → Option (Int32 × xH)} (hk3 : ∀ {u6 : Value} {o0 : Option Nat} {x1 : Int32} {o2 : Option Nat} {x3 : Int32} {x4 : Int32} {x5 : Int32} {h : xH} {r : (Int32 × xH)}, u6.category = 1 → k3 o0 x1 o2 x3 x4 x5 h = some r → xEv (xTa xs) d 157 (3, [xrv o0, .int x1, xrv o2, .int x3, .int x4, .int x5, u6], [], h) (some (.int r.1), r.2)) : ∀ (n : Nat) {o0 : Option Nat} {x1 : Int32} {o2 : Option Nat} {x3 : Int32} {x4 : Int32} {x5 : Int32} {x6 : Int32} {h : xH} {r : (Int32 × xH)}, l157_12 k3 n o0 x1 o2 x3 x4 x5 x6 h = some r → xEv (xTa xs) d 157 (12, [xrv o0, .int x1, xrv o2, .int x3, .int x4, .int x5, .int x6], [], h) (some (.int r.1), r.2) := by
  intro n
  induction n with
  | zero => intros; rename_i hf; cases hf
  | succ n ih =>
    intro o0 x1 o2 x3 x4 x5 x6 h r hf
    replace hf : ((xgI h o0 11 2).bind fun v_1 => (if v_1 ≤ x6 then (xgR h o0 11 5).bind fun a_3 => (xaI h 13 a_3 x5).bind fun v_4 => k3 o0 x1 o2 x3 x4 v_4 h else (xgR h o0 11 3).bind fun a_5 => (xaI h 14 a_5 x6).bind fun v_6 => (if v_6 = 0 then (xgR h o0 11 4).bind fun a_8 => (xaI h 13 a_8 x6).bind fun v_9 => (if v_9 = x5 then (xcv h o0 11).bind fun _ => (fn158 o0 x6 o2 x3 x4 h).bind fun r_11 => (if r_11.1 = 0 then j157_59 k3 (l157_12 k3 n) o0 x1 o2 x3 x4 x5 x6 r_11.2 else some (x6, r_11.2)) else j157_59 k3 (l157_12 k3 n) o0 x1 o2 x3 x4 x5 x6 h) else j157_59 k3 (l157_12 k3 n) o0 x1 o2 x3 x4 x5 x6 h))) = some r := hf
    refine ev_do i157_12 rfl ?_
    refine sh_aload (i' := 0) (n := 1) i157_14 (Or.inr ⟨rfl, by decide⟩) rfl ?_
    obtain ⟨v_1, ev_1, hf⟩ := x_bind hf
    refine sh_getI i157_15 f157_158 ev_1 ?_
    refine ev_icmp (t := 65) i157_18 rfl (fun c_2 => ?_) (fun c_2 => ?_)
    · replace hf := x_pos (show v_1 ≤ x6 from c_2) hf
      refine sh_aload (i' := 0) (n := 1) i157_65 (Or.inr ⟨rfl, by decide⟩) rfl ?_
      obtain ⟨a_3, ea_3, hf⟩ := x_bind hf
      refine sh_getR i157_66 f157_20 ea_3 ?_
      refine ev_do i157_69 rfl ?_
      obtain ⟨v_4, ev_4, hf⟩ := x_bind hf
      refine sh_aldI (tg := 13) i157_71 (Or.inl ⟨rfl, rfl⟩) ev_4 ?_
      refine sh_istore (i' := 5) (n := 2) i157_72 (Or.inl rfl) (xokst_of (Nat.le_of_ble_eq_true rfl) rfl) ?_
      refine sh_goto (t := 3) i157_74 rfl ?_
      exact hk3 rfl hf
    · replace hf := x_neg (show ¬ v_1 ≤ x6 from c_2) hf
      refine sh_aload (i' := 0) (n := 1) i157_21 (Or.inr ⟨rfl, by decide⟩) rfl ?_
      obtain ⟨a_5, ea_5, hf⟩ := x_bind hf
      refine sh_getR i157_22 f157_13 ea_5 ?_
      refine ev_do i157_25 rfl ?_
      obtain ⟨v_6, ev_6, hf⟩ := x_bind hf
      refine sh_aldI (tg := 14) i157_27 (Or.inr (Or.inr ⟨rfl, rfl⟩)) ev_6 ?_
      refine ev_if (t := 59) i157_28 rfl (fun c_7 => ?_) (fun c_7 => ?_)
      · replace hf := x_neg (show ¬ v_6 = 0 from c_7) hf
        exact j157_59_ok hd hk3 ih hf
      · replace hf := x_pos (show v_6 = 0 from Decidable.byContradiction (fun h9 => c_7 h9)) hf
        refine sh_aload (i' := 0) (n := 1) i157_31 (Or.inr ⟨rfl, by decide⟩) rfl ?_
        obtain ⟨a_8, ea_8, hf⟩ := x_bind hf
        refine sh_getR i157_32 f157_17 ea_8 ?_
        refine ev_do i157_35 rfl ?_
        obtain ⟨v_9, ev_9, hf⟩ := x_bind hf
        refine sh_aldI (tg := 13) i157_37 (Or.inl ⟨rfl, rfl⟩) ev_9 ?_
        refine ev_do i157_38 rfl ?_
        refine ev_icmp (t := 59) i157_40 rfl (fun c_10 => ?_) (fun c_10 => ?_)
        · replace hf := x_neg (show ¬ v_9 = x5 from c_10) hf
          exact j157_59_ok hd hk3 ih hf
        · replace hf := x_pos (show v_9 = x5 from Decidable.byContradiction (fun h9 => c_10 h9)) hf
          refine sh_aload (i' := 0) (n := 1) i157_43 (Or.inr ⟨rfl, by decide⟩) rfl ?_
          refine ev_do i157_44 rfl ?_
          refine sh_aload (i' := 2) (n := 1) i157_46 (Or.inr ⟨rfl, by decide⟩) rfl ?_
          refine ev_do i157_47 rfl ?_
          refine ev_do i157_48 rfl ?_
          obtain ⟨_, eu_13, hf⟩ := x_bind hf
          obtain ⟨r_11, er_11, hf⟩ := x_bind hf
          refine sh_inv (as := [.int x4, .int x3, xrv o2, .int x6]) (z := (some (.int r_11.1), r_11.2)) i157_50 v157_194 (Or.inl ⟨by decide, rfl⟩) m158 rfl (Nat.le_of_ble_eq_true rfl) eu_13 (fn158_call (by omega) er_11) ?_
          refine ev_if (t := 59) i157_53 rfl (fun c_12 => ?_) (fun c_12 => ?_)
          · replace hf := x_pos (show r_11.1 = 0 from c_12) hf
            exact j157_59_ok hd hk3 ih hf
          · replace hf := x_neg (show ¬ r_11.1 = 0 from c_12) hf
            refine ev_do i157_56 rfl ?_
            obtain rfl := Option.some.inj hf
            exact sh_iret i157_58 m157 rfl rfl
def l157_3  : Nat → Option Nat → Int32 → Option Nat → Int32 → Int32 → Int32 → xH → Option (Int32 × xH)
  | 0 => fun _ _ _ _ _ _ _ => none
  | n + 1 => fun o0 x1 o2 x3 x4 x5 h => (if x5 = (-1) then some ((-1), h) else l157_12 (l157_3 n) xFuel o0 x1 o2 x3 x4 x5 0 h)
theorem l157_3_ok {xs : List Int32} {d : Nat} (hd : 2 ≤ d) : ∀ (n : Nat) {u6 : Value} {o0 : Option Nat} {x1 : Int32} {o2 : Option Nat} {x3 : Int32} {x4 : Int32} {x5 : Int32} {h : xH} {r : (Int32 × xH)} (hu6 : u6.category = 1), l157_3 n o0 x1 o2 x3 x4 x5 h = some r → xEv (xTa xs) d 157 (3, [xrv o0, .int x1, xrv o2, .int x3, .int x4, .int x5, u6], [], h) (some (.int r.1), r.2) := by
  intro n
  induction n with
  | zero => intros; rename_i hf; cases hf
  | succ n ih =>
    intro u6 o0 x1 o2 x3 x4 x5 h r hu6 hf
    replace hf : ((if x5 = (-1) then some ((-1), h) else l157_12 (l157_3 n) xFuel o0 x1 o2 x3 x4 x5 0 h)) = some r := hf
    refine ev_do i157_3 rfl ?_
    refine ev_do i157_5 rfl ?_
    refine ev_icmp (t := 77) i157_6 rfl (fun c_1 => ?_) (fun c_1 => ?_)
    · replace hf := x_pos (show x5 = (-1) from c_1) hf
      refine ev_do i157_77 rfl ?_
      obtain rfl := Option.some.inj hf
      exact sh_iret i157_78 m157 rfl rfl
    · replace hf := x_neg (show ¬ x5 = (-1) from c_1) hf
      refine ev_do i157_9 rfl ?_
      refine sh_istore (i' := 6) (n := 2) i157_10 (Or.inl rfl) (xokst_of (Nat.le_of_ble_eq_true rfl) rfl) ?_
      exact l157_12_ok hd ih xFuel hf
def fn157 (o0 : Option Nat) (x1 : Int32) (o2 : Option Nat) (x3 : Int32) (x4 : Int32) (h : xH) : Option (Int32 × xH) := l157_3 xFuel o0 x1 o2 x3 x4 x1 h
theorem fn157_call {xs : List Int32} {d : Nat} (hd : 3 ≤ d) {o0 : Option Nat} {x1 : Int32} {o2 : Option Nat} {x3 : Int32} {x4 : Int32} {h : xH} {r : (Int32 × xH)} (hf : fn157 o0 x1 o2 x3 x4 h = some r) : xCall (xTa xs) d 157 [xrv o0, .int x1, xrv o2, .int x3, .int x4] h (some (.int r.1), r.2) := by
  obtain ⟨d, rfl⟩ : ∃ d2, d = d2 + 1 := ⟨d - 1, by omega⟩
  replace hd : 2 ≤ d := by omega
  refine call_of2 (fl := [xrv o0, .int x1, xrv o2, .int x3, .int x4]) (Ls := [xrv o0, .int x1, xrv o2, .int x3, .int x4, .float 0, .float 0]) m157 (by simp [xfl, xrv_cat, xc_i, xc_j, xc_a, xc_f]) (Nat.le_of_ble_eq_true rfl) rfl ?_
  unfold fn157 at hf
  refine ev_do i157_0 rfl ?_
  refine sh_istore (i' := 5) (n := 2) i157_1 (Or.inl rfl) (xokst_of (Nat.le_of_ble_eq_true rfl) rfl) ?_
  exact l157_3_ok hd xFuel rfl hf
end
section
def fn156 (o0 : Option Nat) (x1 : Int32) (h : xH) : Option (Int32 × xH) := (xgR h o0 11 3).bind fun a_1 => (xaI h 14 a_1 x1).bind fun v_2 => (if v_2 = 0 then (xgR h o0 11 5).bind fun a_4 => (xgR h o0 11 4).bind fun a_5 => (xaI h 13 a_5 x1).bind fun v_6 => (xaI h 13 a_4 v_6).bind fun v_7 => (xgR h o0 11 7).bind fun a_8 => (xgR h o0 11 8).bind fun a_9 => (xaI h 13 a_9 x1).bind fun v_10 => (xcv h o0 11).bind fun _ => (fn157 o0 v_7 a_8 (10 * x1) v_10 h).bind fun r_11 => some (r_11.1, r_11.2) else some ((-1), h))
theorem fn156_call {xs : List Int32} {d : Nat} (hd : 4 ≤ d) {o0 : Option Nat} {x1 : Int32} {h : xH} {r : (Int32 × xH)} (hf : fn156 o0 x1 h = some r) : xCall (xTa xs) d 156 [xrv o0, .int x1] h (some (.int r.1), r.2) := by
  obtain ⟨d, rfl⟩ : ∃ d2, d = d2 + 1 := ⟨d - 1, by omega⟩
  replace hd : 3 ≤ d := by omega
  refine call_of2 (fl := [xrv o0, .int x1]) (Ls := [xrv o0, .int x1]) m156 (by simp [xfl, xrv_cat, xc_i, xc_j, xc_a, xc_f]) (Nat.le_of_ble_eq_true rfl) rfl ?_
  unfold fn156 at hf
  refine sh_aload (i' := 0) (n := 1) i156_0 (Or.inr ⟨rfl, by decide⟩) rfl ?_
  obtain ⟨a_1, ea_1, hf⟩ := x_bind hf
  refine sh_getR i156_1 f156_13 ea_1 ?_
  refine ev_do i156_4 rfl ?_
  obtain ⟨v_2, ev_2, hf⟩ := x_bind hf
  refine sh_aldI (tg := 14) i156_5 (Or.inr (Or.inr ⟨rfl, rfl⟩)) ev_2 ?_
  refine ev_if (t := 11) i156_6 rfl (fun c_3 => ?_) (fun c_3 => ?_)
  · replace hf := x_pos (show v_2 = 0 from c_3) hf
    refine sh_aload (i' := 0) (n := 1) i156_11 (Or.inr ⟨rfl, by decide⟩) rfl ?_
    refine sh_aload (i' := 0) (n := 1) i156_12 (Or.inr ⟨rfl, by decide⟩) rfl ?_
    obtain ⟨a_4, ea_4, hf⟩ := x_bind hf
    refine sh_getR i156_13 f156_20 ea_4 ?_
    refine sh_aload (i' := 0) (n := 1) i156_16 (Or.inr ⟨rfl, by decide⟩) rfl ?_
    obtain ⟨a_5, ea_5, hf⟩ := x_bind hf
    refine sh_getR i156_17 f156_17 ea_5 ?_
    refine ev_do i156_20 rfl ?_
    obtain ⟨v_6, ev_6, hf⟩ := x_bind hf
    refine sh_aldI (tg := 13) i156_21 (Or.inl ⟨rfl, rfl⟩) ev_6 ?_
    obtain ⟨v_7, ev_7, hf⟩ := x_bind hf
    refine sh_aldI (tg := 13) i156_22 (Or.inl ⟨rfl, rfl⟩) ev_7 ?_
    refine sh_aload (i' := 0) (n := 1) i156_23 (Or.inr ⟨rfl, by decide⟩) rfl ?_
    obtain ⟨a_8, ea_8, hf⟩ := x_bind hf
    refine sh_getR i156_24 f156_26 ea_8 ?_
    refine ev_do i156_27 rfl ?_
    refine ev_do i156_29 rfl ?_
    refine ev_do i156_30 rfl ?_
    refine sh_aload (i' := 0) (n := 1) i156_31 (Or.inr ⟨rfl, by decide⟩) rfl ?_
    obtain ⟨a_9, ea_9, hf⟩ := x_bind hf
    refine sh_getR i156_32 f156_29 ea_9 ?_
    refine ev_do i156_35 rfl ?_
    obtain ⟨v_10, ev_10, hf⟩ := x_bind hf
    refine sh_aldI (tg := 13) i156_36 (Or.inl ⟨rfl, rfl⟩) ev_10 ?_
    obtain ⟨_, eu_12, hf⟩ := x_bind hf
    obtain ⟨r_11, er_11, hf⟩ := x_bind hf
    refine sh_inv (as := [.int v_10, .int (10 * x1), xrv a_8, .int v_7]) (z := (some (.int r_11.1), r_11.2)) i156_37 v156_190 (Or.inl ⟨by decide, rfl⟩) m157 rfl (Nat.le_of_ble_eq_true rfl) eu_12 (fn157_call (by omega) er_11) ?_
    obtain rfl := Option.some.inj hf
    exact sh_iret i156_40 m156 rfl rfl
  · replace hf := x_neg (show ¬ v_2 = 0 from c_3) hf
    refine ev_do i156_9 rfl ?_
    obtain rfl := Option.some.inj hf
    exact sh_iret i156_10 m156 rfl rfl
end
section
def j159_37 (k3 : Option Nat → Option Nat → Int32 → Int32 → Int32 → xH → Option (Int32 × xH)) (o0 : Option Nat) (o1 : Option Nat) (x2 : Int32) (x3 : Int32) (x4 : Int32) (h : xH) : Option (Int32 × xH) := k3 o0 o1 x2 x3 (x4 + 1) h
theorem j159_37_ok {xs : List Int32} {d : Nat} (hd : 2 ≤ d) {k3 : Option Nat → Option Nat → Int32 → Int32 → Int32 → xH → Option (Int32 × xH)} (hk3 : ∀ {o0 : Option Nat} {o1 : Option Nat} {x2 : Int32} {x3 : Int32} {x4 : Int32} {h : xH} {r : (Int32 × xH)}, k3 o0 o1 x2 x3 x4 h = some r → xEv (xTa xs) d 159 (3, [xrv o0, xrv o1, .int x2, .int x3, .int x4], [], h) (some (.int r.1), r.2)) {o0 : Option Nat} {o1 : Option Nat} {x2 : Int32} {x3 : Int32} {x4 : Int32} {h : xH} {r : (Int32 × xH)} (hf : j159_37 k3 o0 o1 x2 x3 x4 h = some r) : xEv (xTa xs) d 159 (37, [xrv o0, xrv o1, .int x2, .int x3, .int x4], [], h) (some (.int r.1), r.2) := by
  unfold j159_37 at hf
  refine sh_inc (i' := 4) i159_37 rfl (xokst_of (Nat.le_of_ble_eq_true rfl) rfl) rfl ?_
  refine sh_goto (t := 3) i159_40 rfl ?_
  exact hk3 hf
def l159_3  : Nat → Option Nat → Option Nat → Int32 → Int32 → Int32 → xH → Option (Int32 × xH)
  | 0 => fun _ _ _ _ _ _ => none
  | n + 1 => fun o0 o1 x2 x3 x4 h => (xgI h o0 11 2).bind fun v_1 => (if v_1 ≤ x4 then some ((-1), h) else (xgR h o0 11 3).bind fun a_3 => (xaI h 14 a_3 x4).bind fun v_4 => (if v_4 = 0 then j159_37 (l159_3 n) o0 o1 x2 x3 x4 h else (xcv h o0 11).bind fun _ => (fn158 o0 x4 o1 x2 x3 h).bind fun r_6 => (if r_6.1 = 0 then j159_37 (l159_3 n) o0 o1 x2 x3 x4 r_6.2 else some (x4, r_6.2))))
theorem l159_3_ok {xs : List Int32} {d : Nat} (hd : 2 ≤ d) : ∀ (n : Nat) {o0 : Option Nat} {o1 : Option Nat} {x2 : Int32} {x3 : Int32} {x4 : Int32} {h : xH} {r : (Int32 × xH)}, l159_3 n o0 o1 x2 x3 x4 h = some r → xEv (xTa xs) d 159 (3, [xrv o0, xrv o1, .int x2, .int x3, .int x4], [], h) (some (.int r.1), r.2) := by
  intro n
  induction n with
  | zero => intros; rename_i hf; cases hf
  | succ n ih =>
    intro o0 o1 x2 x3 x4 h r hf
    replace hf : ((xgI h o0 11 2).bind fun v_1 => (if v_1 ≤ x4 then some ((-1), h) else (xgR h o0 11 3).bind fun a_3 => (xaI h 14 a_3 x4).bind fun v_4 => (if v_4 = 0 then j159_37 (l159_3 n) o0 o1 x2 x3 x4 h else (xcv h o0 11).bind fun _ => (fn158 o0 x4 o1 x2 x3 h).bind fun r_6 => (if r_6.1 = 0 then j159_37 (l159_3 n) o0 o1 x2 x3 x4 r_6.2 else some (x4, r_6.2))))) = some r := hf
    refine ev_do i159_3 rfl ?_
    refine sh_aload (i' := 0) (n := 1) i159_5 (Or.inr ⟨rfl, by decide⟩) rfl ?_
    obtain ⟨v_1, ev_1, hf⟩ := x_bind hf
    refine sh_getI i159_6 f159_158 ev_1 ?_
    refine ev_icmp (t := 43) i159_9 rfl (fun c_2 => ?_) (fun c_2 => ?_)
    · replace hf := x_pos (show v_1 ≤ x4 from c_2) hf
      refine ev_do i159_43 rfl ?_
      obtain rfl := Option.some.inj hf
      exact sh_iret i159_44 m159 rfl rfl
    · replace hf := x_neg (show ¬ v_1 ≤ x4 from c_2) hf
      refine sh_aload (i' := 0) (n := 1) i159_12 (Or.inr ⟨rfl, by decide⟩) rfl ?_
      obtain ⟨a_3, ea_3, hf⟩ := x_bind hf
      refine sh_getR i159_13 f159_13 ea_3 ?_
      refine ev_do i159_16 rfl ?_
      obtain ⟨v_4, ev_4, hf⟩ := x_bind hf
      refine sh_aldI (tg := 14) i159_18 (Or.inr (Or.inr ⟨rfl, rfl⟩)) ev_4 ?_
      refine ev_if (t := 37) i159_19 rfl (fun c_5 => ?_) (fun c_5 => ?_)
      · replace hf := x_pos (show v_4 = 0 from c_5) hf
        exact j159_37_ok hd ih hf
      · replace hf := x_neg (show ¬ v_4 = 0 from c_5) hf
        refine sh_aload (i' := 0) (n := 1) i159_22 (Or.inr ⟨rfl, by decide⟩) rfl ?_
        refine ev_do i159_23 rfl ?_
        refine sh_aload (i' := 1) (n := 1) i159_25 (Or.inr ⟨rfl, by decide⟩) rfl ?_
        refine ev_do i159_26 rfl ?_
        refine ev_do i159_27 rfl ?_
        obtain ⟨_, eu_8, hf⟩ := x_bind hf
        obtain ⟨r_6, er_6, hf⟩ := x_bind hf
        refine sh_inv (as := [.int x3, .int x2, xrv o1, .int x4]) (z := (some (.int r_6.1), r_6.2)) i159_28 v159_194 (Or.inl ⟨by decide, rfl⟩) m158 rfl (Nat.le_of_ble_eq_true rfl) eu_8 (fn158_call (by omega) er_6) ?_
        refine ev_if (t := 37) i159_31 rfl (fun c_7 => ?_) (fun c_7 => ?_)
        · replace hf := x_pos (show r_6.1 = 0 from c_7) hf
          exact j159_37_ok hd ih hf
        · replace hf := x_neg (show ¬ r_6.1 = 0 from c_7) hf
          refine ev_do i159_34 rfl ?_
          obtain rfl := Option.some.inj hf
          exact sh_iret i159_36 m159 rfl rfl
def fn159 (o0 : Option Nat) (o1 : Option Nat) (x2 : Int32) (x3 : Int32) (h : xH) : Option (Int32 × xH) := l159_3 xFuel o0 o1 x2 x3 0 h
theorem fn159_call {xs : List Int32} {d : Nat} (hd : 3 ≤ d) {o0 : Option Nat} {o1 : Option Nat} {x2 : Int32} {x3 : Int32} {h : xH} {r : (Int32 × xH)} (hf : fn159 o0 o1 x2 x3 h = some r) : xCall (xTa xs) d 159 [xrv o0, xrv o1, .int x2, .int x3] h (some (.int r.1), r.2) := by
  obtain ⟨d, rfl⟩ : ∃ d2, d = d2 + 1 := ⟨d - 1, by omega⟩
  replace hd : 2 ≤ d := by omega
  refine call_of2 (fl := [xrv o0, xrv o1, .int x2, .int x3]) (Ls := [xrv o0, xrv o1, .int x2, .int x3, .float 0]) m159 (by simp [xfl, xrv_cat, xc_i, xc_j, xc_a, xc_f]) (Nat.le_of_ble_eq_true rfl) rfl ?_
  unfold fn159 at hf
  refine ev_do i159_0 rfl ?_
  refine sh_istore (i' := 4) (n := 2) i159_1 (Or.inl rfl) (xokst_of (Nat.le_of_ble_eq_true rfl) rfl) ?_
  exact l159_3_ok hd xFuel hf
end
section
def j160_26  (o0 : Option Nat) (x1 : Int32) (x2 : Int32) (h : xH) : Option (Int32 × xH) := some (x2, h)
theorem j160_26_ok {xs : List Int32} {d : Nat} (hd : 4 ≤ d) {o0 : Option Nat} {x1 : Int32} {x2 : Int32} {h : xH} {r : (Int32 × xH)} (hf : j160_26 o0 x1 x2 h = some r) : xEv (xTa xs) d 160 (26, [xrv o0, .int x1, .int x2], [], h) (some (.int r.1), r.2) := by
  unfold j160_26 at hf
  refine ev_do i160_26 rfl ?_
  obtain rfl := Option.some.inj hf
  exact sh_iret i160_27 m160 rfl rfl
def l160_2  : Nat → Option Nat → Int32 → Int32 → xH → Option (Int32 × xH)
  | 0 => fun _ _ _ _ => none
  | n + 1 => fun o0 x1 x2 h => (if x2 = (-1) then j160_26 o0 x1 x2 h else (xgR h o0 11 13).bind fun a_2 => (xaI h 13 a_2 x2).bind fun v_3 => (if v_3 = (-1) then (xcv h o0 11).bind fun _ => (fn156 o0 x2 h).bind fun r_5 => l160_2 n o0 x1 r_5.1 r_5.2 else j160_26 o0 x1 x2 h))
theorem l160_2_ok {xs : List Int32} {d : Nat} (hd : 4 ≤ d) : ∀ (n : Nat) {o0 : Option Nat} {x1 : Int32} {x2 : Int32} {h : xH} {r : (Int32 × xH)}, l160_2 n o0 x1 x2 h = some r → xEv (xTa xs) d 160 (2, [xrv o0, .int x1, .int x2], [], h) (some (.int r.1), r.2) := by
  intro n
  induction n with
  | zero => intros; rename_i hf; cases hf
  | succ n ih =>
    intro o0 x1 x2 h r hf
    replace hf : ((if x2 = (-1) then j160_26 o0 x1 x2 h else (xgR h o0 11 13).bind fun a_2 => (xaI h 13 a_2 x2).bind fun v_3 => (if v_3 = (-1) then (xcv h o0 11).bind fun _ => (fn156 o0 x2 h).bind fun r_5 => l160_2 n o0 x1 r_5.1 r_5.2 else j160_26 o0 x1 x2 h))) = some r := hf
    refine ev_do i160_2 rfl ?_
    refine ev_do i160_3 rfl ?_
    refine ev_icmp (t := 26) i160_4 rfl (fun c_1 => ?_) (fun c_1 => ?_)
    · replace hf := x_pos (show x2 = (-1) from c_1) hf
      exact j160_26_ok hd hf
    · replace hf := x_neg (show ¬ x2 = (-1) from c_1) hf
      refine sh_aload (i' := 0) (n := 1) i160_7 (Or.inr ⟨rfl, by decide⟩) rfl ?_
      obtain ⟨a_2, ea_2, hf⟩ := x_bind hf
      refine sh_getR i160_8 f160_44 ea_2 ?_
      refine ev_do i160_11 rfl ?_
      obtain ⟨v_3, ev_3, hf⟩ := x_bind hf
      refine sh_aldI (tg := 13) i160_12 (Or.inl ⟨rfl, rfl⟩) ev_3 ?_
      refine ev_do i160_13 rfl ?_
      refine ev_icmp (t := 26) i160_14 rfl (fun c_4 => ?_) (fun c_4 => ?_)
      · replace hf := x_neg (show ¬ v_3 = (-1) from c_4) hf
        exact j160_26_ok hd hf
      · replace hf := x_pos (show v_3 = (-1) from Decidable.byContradiction (fun h9 => c_4 h9)) hf
        refine sh_aload (i' := 0) (n := 1) i160_17 (Or.inr ⟨rfl, by decide⟩) rfl ?_
        refine ev_do i160_18 rfl ?_
        obtain ⟨_, eu_6, hf⟩ := x_bind hf
        obtain ⟨r_5, er_5, hf⟩ := x_bind hf
        refine sh_inv (as := [.int x2]) (z := (some (.int r_5.1), r_5.2)) i160_19 v160_198 (Or.inl ⟨by decide, rfl⟩) m156 rfl (Nat.le_of_ble_eq_true rfl) eu_6 (fn156_call (by omega) er_5) ?_
        refine sh_istore (i' := 2) (n := 1) i160_22 (Or.inr ⟨rfl, by decide⟩) (xokst_of (Nat.le_of_ble_eq_true rfl) rfl) ?_
        refine sh_goto (t := 2) i160_23 rfl ?_
        exact ih hf
def fn160 (o0 : Option Nat) (x1 : Int32) (h : xH) : Option (Int32 × xH) := l160_2 xFuel o0 x1 x1 h
theorem fn160_call {xs : List Int32} {d : Nat} (hd : 5 ≤ d) {o0 : Option Nat} {x1 : Int32} {h : xH} {r : (Int32 × xH)} (hf : fn160 o0 x1 h = some r) : xCall (xTa xs) d 160 [xrv o0, .int x1] h (some (.int r.1), r.2) := by
  obtain ⟨d, rfl⟩ : ∃ d2, d = d2 + 1 := ⟨d - 1, by omega⟩
  replace hd : 4 ≤ d := by omega
  refine call_of2 (fl := [xrv o0, .int x1]) (Ls := [xrv o0, .int x1, .float 0]) m160 (by simp [xfl, xrv_cat, xc_i, xc_j, xc_a, xc_f]) (Nat.le_of_ble_eq_true rfl) rfl ?_
  unfold fn160 at hf
  refine ev_do i160_0 rfl ?_
  refine sh_istore (i' := 2) (n := 1) i160_1 (Or.inr ⟨rfl, by decide⟩) (xokst_of (Nat.le_of_ble_eq_true rfl) rfl) ?_
  exact l160_2_ok hd xFuel hf
end
