section
def j212_183 (k21 : Option Nat → Int32 → Int32 → xH → Option xH) (o0 : Option Nat) (x1 : Int32) (x2 : Int32) (x3 : Int32) (x4 : Int32) (h : xH) : Option xH := k21 o0 x1 x2 h
theorem j212_183_ok {xs : List Int32} {d : Nat} (hd : 5 ≤ d) {k21 : Option Nat → Int32 → Int32 → xH → Option xH} (hk21 : ∀ {u3 : Value} {u4 : Value} {u5 : Value} {u6 : Value} {o0 : Option Nat} {x1 : Int32} {x2 : Int32} {h : xH} {r : xH}, u3.category = 1 → u4.category = 1 → u5.category = 1 → u6.category = 1 → k21 o0 x1 x2 h = some r → xEv (xTa xs) d 212 (21, [xrv o0, .int x1, .int x2, u3, u4, u5, u6], [], h) (none, r)) {u5 : Value} {u6 : Value} {o0 : Option Nat} {x1 : Int32} {x2 : Int32} {x3 : Int32} {x4 : Int32} {h : xH} {r : xH} (hu5 : u5.category = 1) (hu6 : u6.category = 1) (hf : j212_183 k21 o0 x1 x2 x3 x4 h = some r) : xEv (xTa xs) d 212 (183, [xrv o0, .int x1, .int x2, .int x3, .int x4, u5, u6], [], h) (none, r) := by
  unfold j212_183 at hf
  refine sh_goto (t := 21) i212_183 rfl ?_
  exact hk21 rfl rfl hu5 hu6 hf
def j212_127 (k21 : Option Nat → Int32 → Int32 → xH → Option xH) (o0 : Option Nat) (x1 : Int32) (x2 : Int32) (x3 : Int32) (x4 : Int32) (x5 : Int32) (x6 : Int32) (s0 : Option Nat) (s1 : Int32) (s2 : Int32) (h : xH) : Option xH := (xaS h 13 (fun x => x) s0 s1 s2).bind fun h_1 => (xgR h_1 o0 11 70).bind fun a_2 => (xaS h_1 13 (fun x => x) a_2 x2 0).bind fun h_3 => j212_183 k21 o0 x1 (x2 + 1) x3 x4 h_3
theorem j212_127_ok {xs : List Int32} {d : Nat} (hd : 5 ≤ d) {k21 : Option Nat → Int32 → Int32 → xH → Option xH} (hk21 : ∀ {u3 : Value} {u4 : Value} {u5 : Value} {u6 : Value} {o0 : Option Nat} {x1 : Int32} {x2 : Int32} {h : xH} {r : xH}, u3.category = 1 → u4.category = 1 → u5.category = 1 → u6.category = 1 → k21 o0 x1 x2 h = some r → xEv (xTa xs) d 212 (21, [xrv o0, .int x1, .int x2, u3, u4, u5, u6], [], h) (none, r)) {o0 : Option Nat} {x1 : Int32} {x2 : Int32} {x3 : Int32} {x4 : Int32} {x5 : Int32} {x6 : Int32} {s0 : Option Nat} {s1 : Int32} {s2 : Int32} {h : xH} {r : xH} (hf : j212_127 k21 o0 x1 x2 x3 x4 x5 x6 s0 s1 s2 h = some r) : xEv (xTa xs) d 212 (127, [xrv o0, .int x1, .int x2, .int x3, .int x4, .int x5, .int x6], [.int s2, .int s1, xrv s0], h) (none, r) := by
  unfold j212_127 at hf
  obtain ⟨h_1, eh_1, hf⟩ := x_bind hf
  refine sh_ast (tg := 13) i212_127 (Or.inl ⟨rfl, rfl, rfl⟩) eh_1 ?_
  refine sh_aload (i' := 0) (n := 1) i212_128 (Or.inr ⟨rfl, by decide⟩) rfl ?_
  obtain ⟨a_2, ea_2, hf⟩ := x_bind hf
  refine sh_getR i212_129 f212_137 ea_2 ?_
  refine ev_do i212_132 rfl ?_
  refine ev_do i212_133 rfl ?_
  obtain ⟨h_3, eh_3, hf⟩ := x_bind hf
  refine sh_ast (tg := 13) i212_134 (Or.inl ⟨rfl, rfl, rfl⟩) eh_3 ?_
  refine sh_inc (i' := 2) i212_135 rfl (xokst_of (Nat.le_of_ble_eq_true rfl) rfl) rfl ?_
  refine sh_goto (t := 183) i212_138 rfl ?_
  exact j212_183_ok hd hk21 rfl rfl hf
def j212_60 (k21 : Option Nat → Int32 → Int32 → xH → Option xH) (o0 : Option Nat) (x1 : Int32) (x2 : Int32) (x3 : Int32) (x4 : Int32) (h : xH) : Option xH := j212_183 k21 o0 x1 (x2 + (-1)) x3 x4 h
theorem j212_60_ok {xs : List Int32} {d : Nat} (hd : 5 ≤ d) {k21 : Option Nat → Int32 → Int32 → xH → Option xH} (hk21 : ∀ {u3 : Value} {u4 : Value} {u5 : Value} {u6 : Value} {o0 : Option Nat} {x1 : Int32} {x2 : Int32} {h : xH} {r : xH}, u3.category = 1 → u4.category = 1 → u5.category = 1 → u6.category = 1 → k21 o0 x1 x2 h = some r → xEv (xTa xs) d 212 (21, [xrv o0, .int x1, .int x2, u3, u4, u5, u6], [], h) (none, r)) {u5 : Value} {u6 : Value} {o0 : Option Nat} {x1 : Int32} {x2 : Int32} {x3 : Int32} {x4 : Int32} {h : xH} {r : xH} (hu5 : u5.category = 1) (hu6 : u6.category = 1) (hf : j212_60 k21 o0 x1 x2 x3 x4 h = some r) : xEv (xTa xs) d 212 (60, [xrv o0, .int x1, .int x2, .int x3, .int x4, u5, u6], [], h) (none, r) := by
  unfold j212_60 at hf
  refine sh_inc (i' := 2) i212_60 rfl (xokst_of (Nat.le_of_ble_eq_true rfl) rfl) rfl ?_
  refine sh_goto (t := 183) i212_63 rfl ?_
  exact j212_183_ok hd hk21 hu5 hu6 hf
def l212_21  : Nat → Option Nat → Int32 → Int32 → xH → Option xH
  | 0 => fun _ _ _ _ => none
  | n + 1 => fun o0 x1 x2 h => (if x2 ≤ 0 then some h else (xgR h o0 11 69).bind fun a_2 => (xaI h 13 a_2 (x2 - 1)).bind fun v_3 => (xgR h o0 11 70).bind fun a_4 => (xaI h 13 a_4 (x2 - 1)).bind fun v_5 => (if v_3 = (-1) then j212_60 (l212_21 n) o0 x1 x2 v_3 v_5 h else (xgR h o0 11 14).bind fun a_7 => (xaI h 13 a_7 v_3).bind fun v_8 => (if v_5 = v_8 then j212_60 (l212_21 n) o0 x1 x2 v_3 v_5 h else (xgR h o0 11 70).bind fun a_10 => (xaI h 13 a_10 (x2 - 1)).bind fun v_11 => (xaS h 13 (fun x => x) a_10 (x2 - 1) (v_11 + 1)).bind fun h_12 => (xgR h_12 o0 11 16).bind fun a_13 => (xaI h_12 13 a_13 ((24 * v_3) + v_5)).bind fun v_14 => (if v_14 = 7 then (xcv h_12 o0 11).bind fun _ => (fn156 o0 v_3 h_12).bind fun r_16 => (xgR r_16.2 o0 11 69).bind fun a_17 => (if r_16.1 = (-1) then j212_127 (l212_21 n) o0 x1 x2 v_3 v_5 v_14 r_16.1 a_17 x2 (-1) r_16.2 else (xcv r_16.2 o0 11).bind fun _ => (fn160 o0 r_16.1 r_16.2).bind fun r_19 => j212_127 (l212_21 n) o0 x1 x2 v_3 v_5 v_14 r_16.1 a_17 x2 r_19.1 r_19.2) else (if 1 < v_14 then j212_183 (l212_21 n) o0 x1 x2 v_3 v_5 h_12 else (xgR h_12 o0 11 66).bind fun a_23 => (xgI h_12 o0 11 68).bind fun v_24 => (xaS h_12 13 (fun x => x) a_23 v_24 v_3).bind fun h_25 => (xgR h_25 o0 11 67).bind fun a_26 => (xgI h_25 o0 11 68).bind fun v_27 => (xaS h_25 13 (fun x => x) a_26 v_27 ((24 * v_3) + v_5)).bind fun h_28 => (xgI h_28 o0 11 68).bind fun v_29 => (xpF h_28 o0 11 68 .int (.int (v_29 + 1))).bind fun h_30 => j212_183 (l212_21 n) o0 x1 x2 v_3 v_5 h_30)))))
theorem l212_21_ok {xs : List Int32} {d : Nat} (hd : 5 ≤ d) : ∀ (n : Nat) {u3 : Value} {u4 : Value} {u5 : Value} {u6 : Value} {o0 : Option Nat} {x1 : Int32} {x2 : Int32} {h : xH} {r : xH} (hu3 : u3.category = 1) (hu4 : u4.category = 1) (hu5 : u5.category = 1) (hu6 : u6.category = 1), l212_21 n o0 x1 x2 h = some r → xEv (xTa xs) d 212 (21, [xrv o0, .int x1, .int x2, u3, u4, u5, u6], [], h) (none, r) := by
  intro n
  induction n with
  | zero => intros; rename_i hf; cases hf
  | succ n ih =>
    intro u3 u4 u5 u6 o0 x1 x2 h r hu3 hu4 hu5 hu6 hf
    replace hf : ((if x2 ≤ 0 then some h else (xgR h o0 11 69).bind fun a_2 => (xaI h 13 a_2 (x2 - 1)).bind fun v_3 => (xgR h o0 11 70).bind fun a_4 => (xaI h 13 a_4 (x2 - 1)).bind fun v_5 => (if v_3 = (-1) then j212_60 (l212_21 n) o0 x1 x2 v_3 v_5 h else (xgR h o0 11 14).bind fun a_7 => (xaI h 13 a_7 v_3).bind fun v_8 => (if v_5 = v_8 then j212_60 (l212_21 n) o0 x1 x2 v_3 v_5 h else (xgR h o0 11 70).bind fun a_10 => (xaI h 13 a_10 (x2 - 1)).bind fun v_11 => (xaS h 13 (fun x => x) a_10 (x2 - 1) (v_11 + 1)).bind fun h_12 => (xgR h_12 o0 11 16).bind fun a_13 => (xaI h_12 13 a_13 ((24 * v_3) + v_5)).bind fun v_14 => (if v_14 = 7 then (xcv h_12 o0 11).bind fun _ => (fn156 o0 v_3 h_12).bind fun r_16 => (xgR r_16.2 o0 11 69).bind fun a_17 => (if r_16.1 = (-1) then j212_127 (l212_21 n) o0 x1 x2 v_3 v_5 v_14 r_16.1 a_17 x2 (-1) r_16.2 else (xcv r_16.2 o0 11).bind fun _ => (fn160 o0 r_16.1 r_16.2).bind fun r_19 => j212_127 (l212_21 n) o0 x1 x2 v_3 v_5 v_14 r_16.1 a_17 x2 r_19.1 r_19.2) else (if 1 < v_14 then j212_183 (l212_21 n) o0 x1 x2 v_3 v_5 h_12 else (xgR h_12 o0 11 66).bind fun a_23 => (xgI h_12 o0 11 68).bind fun v_24 => (xaS h_12 13 (fun x => x) a_23 v_24 v_3).bind fun h_25 => (xgR h_25 o0 11 67).bind fun a_26 => (xgI h_25 o0 11 68).bind fun v_27 => (xaS h_25 13 (fun x => x) a_26 v_27 ((24 * v_3) + v_5)).bind fun h_28 => (xgI h_28 o0 11 68).bind fun v_29 => (xpF h_28 o0 11 68 .int (.int (v_29 + 1))).bind fun h_30 => j212_183 (l212_21 n) o0 x1 x2 v_3 v_5 h_30)))))) = some r := hf
    refine ev_do i212_21 rfl ?_
    refine ev_if (t := 186) i212_22 rfl (fun c_1 => ?_) (fun c_1 => ?_)
    · replace hf := x_pos (show x2 ≤ 0 from c_1) hf
      obtain rfl := Option.some.inj hf
      exact sh_vret i212_186 m212 rfl
    · replace hf := x_neg (show ¬ x2 ≤ 0 from c_1) hf
      refine sh_aload (i' := 0) (n := 1) i212_25 (Or.inr ⟨rfl, by decide⟩) rfl ?_
      obtain ⟨a_2, ea_2, hf⟩ := x_bind hf
      refine sh_getR i212_26 f212_134 ea_2 ?_
      refine ev_do i212_29 rfl ?_
      refine ev_do i212_30 rfl ?_
      refine ev_do i212_31 rfl ?_
      obtain ⟨v_3, ev_3, hf⟩ := x_bind hf
      refine sh_aldI (tg := 13) i212_32 (Or.inl ⟨rfl, rfl⟩) ev_3 ?_
      refine sh_istore (i' := 3) (n := 1) i212_33 (Or.inr ⟨rfl, by decide⟩) (xokst_of (Nat.le_of_ble_eq_true rfl) rfl) ?_
      refine sh_aload (i' := 0) (n := 1) i212_34 (Or.inr ⟨rfl, by decide⟩) rfl ?_
      obtain ⟨a_4, ea_4, hf⟩ := x_bind hf
      refine sh_getR i212_35 f212_137 ea_4 ?_
      refine ev_do i212_38 rfl ?_
      refine ev_do i212_39 rfl ?_
      refine ev_do i212_40 rfl ?_
      obtain ⟨v_5, ev_5, hf⟩ := x_bind hf
      refine sh_aldI (tg := 13) i212_41 (Or.inl ⟨rfl, rfl⟩) ev_5 ?_
      refine sh_istore (i' := 4) (n := 2) i212_42 (Or.inl rfl) (xokst_of (Nat.le_of_ble_eq_true rfl) rfl) ?_
      refine ev_do i212_44 rfl ?_
      refine ev_do i212_45 rfl ?_
      refine ev_icmp (t := 60) i212_46 rfl (fun c_6 => ?_) (fun c_6 => ?_)
      · replace hf := x_pos (show v_3 = (-1) from c_6) hf
        exact j212_60_ok hd ih hu5 hu6 hf
      · replace hf := x_neg (show ¬ v_3 = (-1) from c_6) hf
        refine ev_do i212_49 rfl ?_
        refine sh_aload (i' := 0) (n := 1) i212_51 (Or.inr ⟨rfl, by decide⟩) rfl ?_
        obtain ⟨a_7, ea_7, hf⟩ := x_bind hf
        refine sh_getR i212_52 f212_47 ea_7 ?_
        refine ev_do i212_55 rfl ?_
        obtain ⟨v_8, ev_8, hf⟩ := x_bind hf
        refine sh_aldI (tg := 13) i212_56 (Or.inl ⟨rfl, rfl⟩) ev_8 ?_
        refine ev_icmp (t := 66) i212_57 rfl (fun c_9 => ?_) (fun c_9 => ?_)
        · replace hf := x_neg (show ¬ v_5 = v_8 from c_9) hf
          refine sh_aload (i' := 0) (n := 1) i212_66 (Or.inr ⟨rfl, by decide⟩) rfl ?_
          obtain ⟨a_10, ea_10, hf⟩ := x_bind hf
          refine sh_getR i212_67 f212_137 ea_10 ?_
          refine ev_do i212_70 rfl ?_
          refine ev_do i212_71 rfl ?_
          refine ev_do i212_72 rfl ?_
          refine sh_dup2 i212_73 rfl (xrv_cat (a_10)) ?_
          obtain ⟨v_11, ev_11, hf⟩ := x_bind hf
          refine sh_aldI (tg := 13) i212_74 (Or.inl ⟨rfl, rfl⟩) ev_11 ?_
          refine ev_do i212_75 rfl ?_
          refine ev_do i212_76 rfl ?_
          obtain ⟨h_12, eh_12, hf⟩ := x_bind hf
          refine sh_ast (tg := 13) i212_77 (Or.inl ⟨rfl, rfl, rfl⟩) eh_12 ?_
          refine sh_aload (i' := 0) (n := 1) i212_78 (Or.inr ⟨rfl, by decide⟩) rfl ?_
          obtain ⟨a_13, ea_13, hf⟩ := x_bind hf
          refine sh_getR i212_79 f212_53 ea_13 ?_
          refine ev_do i212_82 rfl ?_
          refine ev_do i212_84 rfl ?_
          refine ev_do i212_85 rfl ?_
          refine ev_do i212_86 rfl ?_
          refine ev_do i212_88 rfl ?_
          obtain ⟨v_14, ev_14, hf⟩ := x_bind hf
          refine sh_aldI (tg := 13) i212_89 (Or.inl ⟨rfl, rfl⟩) ev_14 ?_
          refine sh_istore (i' := 5) (n := 2) i212_90 (Or.inl rfl) (xokst_of (Nat.le_of_ble_eq_true rfl) rfl) ?_
          refine ev_do i212_92 rfl ?_
          refine ev_do i212_94 rfl ?_
          refine ev_icmp (t := 141) i212_96 rfl (fun c_15 => ?_) (fun c_15 => ?_)
          · replace hf := x_neg (show ¬ v_14 = 7 from c_15) hf
            refine ev_do i212_141 rfl ?_
            refine ev_do i212_143 rfl ?_
            refine ev_icmp (t := 183) i212_144 rfl (fun c_22 => ?_) (fun c_22 => ?_)
            · replace hf := x_pos (show 1 < v_14 from c_22) hf
              exact j212_183_ok hd ih rfl hu6 hf
            · replace hf := x_neg (show ¬ 1 < v_14 from c_22) hf
              refine sh_aload (i' := 0) (n := 1) i212_147 (Or.inr ⟨rfl, by decide⟩) rfl ?_
              obtain ⟨a_23, ea_23, hf⟩ := x_bind hf
              refine sh_getR i212_148 f212_128 ea_23 ?_
              refine sh_aload (i' := 0) (n := 1) i212_151 (Or.inr ⟨rfl, by decide⟩) rfl ?_
              obtain ⟨v_24, ev_24, hf⟩ := x_bind hf
              refine sh_getI i212_152 f212_418 ev_24 ?_
              refine ev_do i212_155 rfl ?_
              obtain ⟨h_25, eh_25, hf⟩ := x_bind hf
              refine sh_ast (tg := 13) i212_156 (Or.inl ⟨rfl, rfl, rfl⟩) eh_25 ?_
              refine sh_aload (i' := 0) (n := 1) i212_157 (Or.inr ⟨rfl, by decide⟩) rfl ?_
              obtain ⟨a_26, ea_26, hf⟩ := x_bind hf
              refine sh_getR i212_158 f212_131 ea_26 ?_
              refine sh_aload (i' := 0) (n := 1) i212_161 (Or.inr ⟨rfl, by decide⟩) rfl ?_
              obtain ⟨v_27, ev_27, hf⟩ := x_bind hf
              refine sh_getI i212_162 f212_418 ev_27 ?_
              refine ev_do i212_165 rfl ?_
              refine ev_do i212_167 rfl ?_
              refine ev_do i212_168 rfl ?_
              refine ev_do i212_169 rfl ?_
              refine ev_do i212_171 rfl ?_
              obtain ⟨h_28, eh_28, hf⟩ := x_bind hf
              refine sh_ast (tg := 13) i212_172 (Or.inl ⟨rfl, rfl, rfl⟩) eh_28 ?_
              refine sh_aload (i' := 0) (n := 1) i212_173 (Or.inr ⟨rfl, by decide⟩) rfl ?_
              refine sh_dup i212_174 (xrv_cat (o0)) ?_
              obtain ⟨v_29, ev_29, hf⟩ := x_bind hf
              refine sh_getI i212_175 f212_418 ev_29 ?_
              refine ev_do i212_178 rfl ?_
              refine ev_do i212_179 rfl ?_
              obtain ⟨h_30, eh_30, hf⟩ := x_bind hf
              refine sh_put i212_180 f212_418 (by decide) rfl eh_30 ?_
              exact j212_183_ok hd ih rfl hu6 hf
          · replace hf := x_pos (show v_14 = 7 from Decidable.byContradiction (fun h9 => c_15 h9)) hf
            refine sh_aload (i' := 0) (n := 1) i212_99 (Or.inr ⟨rfl, by decide⟩) rfl ?_
            refine ev_do i212_100 rfl ?_
            obtain ⟨_, eu_21, hf⟩ := x_bind hf
            obtain ⟨r_16, er_16, hf⟩ := x_bind hf
            refine sh_inv (as := [.int v_3]) (z := (some (.int r_16.1), r_16.2)) i212_101 v212_198 (Or.inl ⟨by decide, rfl⟩) m156 rfl (Nat.le_of_ble_eq_true rfl) eu_21 (fn156_call (by omega) er_16) ?_
            refine sh_istore (i' := 6) (n := 2) i212_104 (Or.inl rfl) (xokst_of (Nat.le_of_ble_eq_true rfl) rfl) ?_
            refine sh_aload (i' := 0) (n := 1) i212_106 (Or.inr ⟨rfl, by decide⟩) rfl ?_
            obtain ⟨a_17, ea_17, hf⟩ := x_bind hf
            refine sh_getR i212_107 f212_134 ea_17 ?_
            refine ev_do i212_110 rfl ?_
            refine ev_do i212_111 rfl ?_
            refine ev_do i212_113 rfl ?_
            refine ev_icmp (t := 121) i212_114 rfl (fun c_18 => ?_) (fun c_18 => ?_)
            · replace hf := x_neg (show ¬ r_16.1 = (-1) from c_18) hf
              refine sh_aload (i' := 0) (n := 1) i212_121 (Or.inr ⟨rfl, by decide⟩) rfl ?_
              refine ev_do i212_122 rfl ?_
              obtain ⟨_, eu_20, hf⟩ := x_bind hf
              obtain ⟨r_19, er_19, hf⟩ := x_bind hf
              refine sh_inv (as := [.int r_16.1]) (z := (some (.int r_19.1), r_19.2)) i212_124 v212_353 (Or.inl ⟨by decide, rfl⟩) m160 rfl (by simp [xcat, xrv_cat, xc_i, xc_j, xc_a, xc_f]) eu_20 (fn160_call (by omega) er_19) ?_
              exact j212_127_ok hd ih hf
            · replace hf := x_pos (show r_16.1 = (-1) from Decidable.byContradiction (fun h9 => c_18 h9)) hf
              refine ev_do i212_117 rfl ?_
              refine sh_goto (t := 127) i212_118 rfl ?_
              exact j212_127_ok hd ih hf
        · replace hf := x_pos (show v_5 = v_8 from Decidable.byContradiction (fun h9 => c_9 h9)) hf
          exact j212_60_ok hd ih hu5 hu6 hf
def fn212 (o0 : Option Nat) (x1 : Int32) (h : xH) : Option xH := (xpF h o0 11 68 .int (.int 0)).bind fun h_1 => (xgR h_1 o0 11 69).bind fun a_2 => (xaS h_1 13 (fun x => x) a_2 0 x1).bind fun h_3 => (xgR h_3 o0 11 70).bind fun a_4 => (xaS h_3 13 (fun x => x) a_4 0 0).bind fun h_5 => l212_21 xFuel o0 x1 1 h_5
theorem fn212_call {xs : List Int32} {d : Nat} (hd : 6 ≤ d) {o0 : Option Nat} {x1 : Int32} {h : xH} {r : xH} (hf : fn212 o0 x1 h = some r) : xCall (xTa xs) d 212 [xrv o0, .int x1] h (none, r) := by
  obtain ⟨d, rfl⟩ : ∃ d2, d = d2 + 1 := ⟨d - 1, by omega⟩
  replace hd : 5 ≤ d := by omega
  refine call_of2 (fl := [xrv o0, .int x1]) (Ls := [xrv o0, .int x1, .float 0, .float 0, .float 0, .float 0, .float 0]) m212 (by simp [xfl, xrv_cat, xc_i, xc_j, xc_a, xc_f]) (Nat.le_of_ble_eq_true rfl) rfl ?_
  unfold fn212 at hf
  refine sh_aload (i' := 0) (n := 1) i212_0 (Or.inr ⟨rfl, by decide⟩) rfl ?_
  refine ev_do i212_1 rfl ?_
  obtain ⟨h_1, eh_1, hf⟩ := x_bind hf
  refine sh_put i212_2 f212_418 (by decide) rfl eh_1 ?_
  refine ev_do i212_5 rfl ?_
  refine sh_istore (i' := 2) (n := 1) i212_6 (Or.inr ⟨rfl, by decide⟩) (xokst_of (Nat.le_of_ble_eq_true rfl) rfl) ?_
  refine sh_aload (i' := 0) (n := 1) i212_7 (Or.inr ⟨rfl, by decide⟩) rfl ?_
  obtain ⟨a_2, ea_2, hf⟩ := x_bind hf
  refine sh_getR i212_8 f212_134 ea_2 ?_
  refine ev_do i212_11 rfl ?_
  refine ev_do i212_12 rfl ?_
  obtain ⟨h_3, eh_3, hf⟩ := x_bind hf
  refine sh_ast (tg := 13) i212_13 (Or.inl ⟨rfl, rfl, rfl⟩) eh_3 ?_
  refine sh_aload (i' := 0) (n := 1) i212_14 (Or.inr ⟨rfl, by decide⟩) rfl ?_
  obtain ⟨a_4, ea_4, hf⟩ := x_bind hf
  refine sh_getR i212_15 f212_137 ea_4 ?_
  refine ev_do i212_18 rfl ?_
  refine ev_do i212_19 rfl ?_
  obtain ⟨h_5, eh_5, hf⟩ := x_bind hf
  refine sh_ast (tg := 13) i212_20 (Or.inl ⟨rfl, rfl, rfl⟩) eh_5 ?_
  exact l212_21_ok hd xFuel rfl rfl rfl rfl hf
end
section
def j213_69 (k6 : Option Nat → Int32 → Int32 → Int32 → Int32 → Int32 → xH → Option xH) (k16 : Option Nat → Int32 → Int32 → Int32 → Int32 → Int32 → Int32 → xH → Option xH) (o0 : Option Nat) (x1 : Int32) (x2 : Int32) (x3 : Int32) (x4 : Int32) (x5 : Int32) (x6 : Int32) (x7 : Int32) (h : xH) : Option xH := k16 o0 x1 x2 x3 x4 x5 (x6 + 1) h
theorem j213_69_ok {xs : List Int32} {d : Nat} (hd : 7 ≤ d) {k6 : Option Nat → Int32 → Int32 → Int32 → Int32 → Int32 → xH → Option xH} {k16 : Option Nat → Int32 → Int32 → Int32 → Int32 → Int32 → Int32 → xH → Option xH} (hk6 : ∀ {u6 : Value} {u7 : Value} {o0 : Option Nat} {x1 : Int32} {x2 : Int32} {x3 : Int32} {x4 : Int32} {x5 : Int32} {h : xH} {r : xH}, u6.category = 1 → u7.category = 1 → k6 o0 x1 x2 x3 x4 x5 h = some r → xEv (xTa xs) d 213 (6, [xrv o0, .int x1, .int x2, .int x3, .int x4, .int x5, u6, u7], [], h) (none, r)) (hk16 : ∀ {u7 : Value} {o0 : Option Nat} {x1 : Int32} {x2 : Int32} {x3 : Int32} {x4 : Int32} {x5 : Int32} {x6 : Int32} {h : xH} {r : xH}, u7.category = 1 → k16 o0 x1 x2 x3 x4 x5 x6 h = some r → xEv (xTa xs) d 213 (16, [xrv o0, .int x1, .int x2, .int x3, .int x4, .int x5, .int x6, u7], [], h) (none, r)) {o0 : Option Nat} {x1 : Int32} {x2 : Int32} {x3 : Int32} {x4 : Int32} {x5 : Int32} {x6 : Int32} {x7 : Int32} {h : xH} {r : xH} (hf : j213_69 k6 k16 o0 x1 x2 x3 x4 x5 x6 x7 h = some r) : xEv (xTa xs) d 213 (69, [xrv o0, .int x1, .int x2, .int x3, .int x4, .int x5, .int x6, .int x7], [], h) (none, r) := by
  unfold j213_69 at hf
  refine sh_inc (i' := 6) i213_69 rfl (xokst_of (Nat.le_of_ble_eq_true rfl) rfl) rfl ?_
  refine sh_goto (t := 16) i213_72 rfl ?_
  exact hk16 rfl hf
def j213_57 (k6 : Option Nat → Int32 → Int32 → Int32 → Int32 → Int32 → xH → Option xH) (k16 : Option Nat → Int32 → Int32 → Int32 → Int32 → Int32 → Int32 → xH → Option xH) (o0 : Option Nat) (x1 : Int32) (x2 : Int32) (x3 : Int32) (x4 : Int32) (x5 : Int32) (x6 : Int32) (x7 : Int32) (h : xH) : Option xH := (xcv h o0 11).bind fun _ => (fn211 o0 x1 x7 x2 x3 h).bind fun h_1 => j213_69 k6 k16 o0 x1 x2 x3 1 x5 x6 x7 h_1
theorem j213_57_ok {xs : List Int32} {d : Nat} (hd : 7 ≤ d) {k6 : Option Nat → Int32 → Int32 → Int32 → Int32 → Int32 → xH → Option xH} {k16 : Option Nat → Int32 → Int32 → Int32 → Int32 → Int32 → Int32 → xH → Option xH} (hk6 : ∀ {u6 : Value} {u7 : Value} {o0 : Option Nat} {x1 : Int32} {x2 : Int32} {x3 : Int32} {x4 : Int32} {x5 : Int32} {h : xH} {r : xH}, u6.category = 1 → u7.category = 1 → k6 o0 x1 x2 x3 x4 x5 h = some r → xEv (xTa xs) d 213 (6, [xrv o0, .int x1, .int x2, .int x3, .int x4, .int x5, u6, u7], [], h) (none, r)) (hk16 : ∀ {u7 : Value} {o0 : Option Nat} {x1 : Int32} {x2 : Int32} {x3 : Int32} {x4 : Int32} {x5 : Int32} {x6 : Int32} {h : xH} {r : xH}, u7.category = 1 → k16 o0 x1 x2 x3 x4 x5 x6 h = some r → xEv (xTa xs) d 213 (16, [xrv o0, .int x1, .int x2, .int x3, .int x4, .int x5, .int x6, u7], [], h) (none, r)) {o0 : Option Nat} {x1 : Int32} {x2 : Int32} {x3 : Int32} {x4 : Int32} {x5 : Int32} {x6 : Int32} {x7 : Int32} {h : xH} {r : xH} (hf : j213_57 k6 k16 o0 x1 x2 x3 x4 x5 x6 x7 h = some r) : xEv (xTa xs) d 213 (57, [xrv o0, .int x1, .int x2, .int x3, .int x4, .int x5, .int x6, .int x7], [], h) (none, r) := by
  unfold j213_57 at hf
  refine ev_do i213_57 rfl ?_
  refine sh_istore (i' := 4) (n := 2) i213_58 (Or.inl rfl) (xokst_of (Nat.le_of_ble_eq_true rfl) rfl) ?_
  refine sh_aload (i' := 0) (n := 1) i213_60 (Or.inr ⟨rfl, by decide⟩) rfl ?_
  refine ev_do i213_61 rfl ?_
  refine ev_do i213_62 rfl ?_
  refine ev_do i213_64 rfl ?_
  refine ev_do i213_65 rfl ?_
  obtain ⟨_, eu_2, hf⟩ := x_bind hf
  obtain ⟨h_1, eh_1, hf⟩ := x_bind hf
  refine sh_inv (as := [.int x3, .int x2, .int x7, .int x1]) (z := (none, h_1)) i213_66 v213_424 (Or.inl ⟨by decide, rfl⟩) m211 rfl (Nat.le_of_ble_eq_true rfl) eu_2 (fn211_call (by omega) eh_1) ?_
  exact j213_69_ok hd hk6 hk16 hf
def l213_16 (k6 : Option Nat → Int32 → Int32 → Int32 → Int32 → Int32 → xH → Option xH) : Nat → Option Nat → Int32 → Int32 → Int32 → Int32 → Int32 → Int32 → xH → Option xH
  | 0 => fun _ _ _ _ _ _ _ _ => none
  | n + 1 => fun o0 x1 x2 x3 x4 x5 x6 h => (xgR h o0 11 14).bind fun a_1 => (xaI h 13 a_1 x1).bind fun v_2 => (if v_2 ≤ x6 then k6 o0 x1 x2 x3 x4 (x5 + 1) h else (xgR h o0 11 16).bind fun a_4 => (xaI h 13 a_4 ((24 * x1) + x6)).bind fun v_5 => (if v_5 = x5 then (if x4 = 0 then (xcv h o0 11).bind fun _ => (fn199 o0 h).bind fun h_8 => j213_57 k6 (l213_16 k6 n) o0 x1 x2 x3 x4 x5 x6 ((24 * x1) + x6) h_8 else j213_57 k6 (l213_16 k6 n) o0 x1 x2 x3 x4 x5 x6 ((24 * x1) + x6) h) else j213_69 k6 (l213_16 k6 n) o0 x1 x2 x3 x4 x5 x6 ((24 * x1) + x6) h))
theorem l213_16_ok {xs : List Int32} {d : Nat} (hd : 7 ≤ d) {k6 : Option Nat → Int32 → Int32 → Int32 → Int32 → Int32 → xH → Option xH} (hk6 : ∀ {u6 : Value} {u7 : Value} {o0 : Option Nat} {x1 : Int32} {x2 : Int32} {x3 : Int32} {x4 : Int32} {x5 : Int32} {h : xH} {r : xH}, u6.category = 1 → u7.category = 1 → k6 o0 x1 x2 x3 x4 x5 h = some r → xEv (xTa xs) d 213 (6, [xrv o0, .int x1, .int x2, .int x3, .int x4, .int x5, u6, u7], [], h) (none, r)) : ∀ (n : Nat) {u7 : Value} {o0 : Option Nat} {x1 : Int32} {x2 : Int32} {x3 : Int32} {x4 : Int32} {x5 : Int32} {x6 : Int32} {h : xH} {r : xH} (hu7 : u7.category = 1), l213_16 k6 n o0 x1 x2 x3 x4 x5 x6 h = some r → xEv (xTa xs) d 213 (16, [xrv o0, .int x1, .int x2, .int x3, .int x4, .int x5, .int x6, u7], [], h) (none, r) := by
  intro n
  induction n with
  | zero => intros; rename_i hf; cases hf
  | succ n ih =>
    intro u7 o0 x1 x2 x3 x4 x5 x6 h r hu7 hf
    replace hf : ((xgR h o0 11 14).bind fun a_1 => (xaI h 13 a_1 x1).bind fun v_2 => (if v_2 ≤ x6 then k6 o0 x1 x2 x3 x4 (x5 + 1) h else (xgR h o0 11 16).bind fun a_4 => (xaI h 13 a_4 ((24 * x1) + x6)).bind fun v_5 => (if v_5 = x5 then (if x4 = 0 then (xcv h o0 11).bind fun _ => (fn199 o0 h).bind fun h_8 => j213_57 k6 (l213_16 k6 n) o0 x1 x2 x3 x4 x5 x6 ((24 * x1) + x6) h_8 else j213_57 k6 (l213_16 k6 n) o0 x1 x2 x3 x4 x5 x6 ((24 * x1) + x6) h) else j213_69 k6 (l213_16 k6 n) o0 x1 x2 x3 x4 x5 x6 ((24 * x1) + x6) h))) = some r := hf
    refine ev_do i213_16 rfl ?_
    refine sh_aload (i' := 0) (n := 1) i213_18 (Or.inr ⟨rfl, by decide⟩) rfl ?_
    obtain ⟨a_1, ea_1, hf⟩ := x_bind hf
    refine sh_getR i213_19 f213_47 ea_1 ?_
    refine ev_do i213_22 rfl ?_
    obtain ⟨v_2, ev_2, hf⟩ := x_bind hf
    refine sh_aldI (tg := 13) i213_23 (Or.inl ⟨rfl, rfl⟩) ev_2 ?_
    refine ev_icmp (t := 75) i213_24 rfl (fun c_3 => ?_) (fun c_3 => ?_)
    · replace hf := x_pos (show v_2 ≤ x6 from c_3) hf
      refine sh_inc (i' := 5) i213_75 rfl (xokst_of (Nat.le_of_ble_eq_true rfl) rfl) rfl ?_
      refine sh_goto (t := 6) i213_78 rfl ?_
      exact hk6 rfl hu7 hf
    · replace hf := x_neg (show ¬ v_2 ≤ x6 from c_3) hf
      refine ev_do i213_27 rfl ?_
      refine ev_do i213_29 rfl ?_
      refine ev_do i213_30 rfl ?_
      refine ev_do i213_31 rfl ?_
      refine ev_do i213_33 rfl ?_
      refine sh_istore (i' := 7) (n := 2) i213_34 (Or.inl rfl) (xokst_of (Nat.le_of_ble_eq_true rfl) rfl) ?_
      refine sh_aload (i' := 0) (n := 1) i213_36 (Or.inr ⟨rfl, by decide⟩) rfl ?_
      obtain ⟨a_4, ea_4, hf⟩ := x_bind hf
      refine sh_getR i213_37 f213_53 ea_4 ?_
      refine ev_do i213_40 rfl ?_
      obtain ⟨v_5, ev_5, hf⟩ := x_bind hf
      refine sh_aldI (tg := 13) i213_42 (Or.inl ⟨rfl, rfl⟩) ev_5 ?_
      refine ev_do i213_43 rfl ?_
      refine ev_icmp (t := 69) i213_45 rfl (fun c_6 => ?_) (fun c_6 => ?_)
      · replace hf := x_neg (show ¬ v_5 = x5 from c_6) hf
        exact j213_69_ok hd hk6 ih hf
      · replace hf := x_pos (show v_5 = x5 from Decidable.byContradiction (fun h9 => c_6 h9)) hf
        refine ev_do i213_48 rfl ?_
        refine ev_if (t := 57) i213_50 rfl (fun c_7 => ?_) (fun c_7 => ?_)
        · replace hf := x_neg (show ¬ x4 = 0 from c_7) hf
          exact j213_57_ok hd hk6 ih hf
        · replace hf := x_pos (show x4 = 0 from Decidable.byContradiction (fun h9 => c_7 h9)) hf
          refine sh_aload (i' := 0) (n := 1) i213_53 (Or.inr ⟨rfl, by decide⟩) rfl ?_
          obtain ⟨_, eu_9, hf⟩ := x_bind hf
          obtain ⟨h_8, eh_8, hf⟩ := x_bind hf
          refine sh_inv (as := []) (z := (none, h_8)) i213_54 v213_421 (Or.inl ⟨by decide, rfl⟩) m199 rfl (Nat.le_of_ble_eq_true rfl) eu_9 (fn199_call (by omega) eh_8) ?_
          exact j213_57_ok hd hk6 ih hf
def l213_6  : Nat → Option Nat → Int32 → Int32 → Int32 → Int32 → Int32 → xH → Option xH
  | 0 => fun _ _ _ _ _ _ _ => none
  | n + 1 => fun o0 x1 x2 x3 x4 x5 h => (if 6 < x5 then some h else l213_16 (l213_6 n) xFuel o0 x1 x2 x3 x4 x5 0 h)
theorem l213_6_ok {xs : List Int32} {d : Nat} (hd : 7 ≤ d) : ∀ (n : Nat) {u6 : Value} {u7 : Value} {o0 : Option Nat} {x1 : Int32} {x2 : Int32} {x3 : Int32} {x4 : Int32} {x5 : Int32} {h : xH} {r : xH} (hu6 : u6.category = 1) (hu7 : u7.category = 1), l213_6 n o0 x1 x2 x3 x4 x5 h = some r → xEv (xTa xs) d 213 (6, [xrv o0, .int x1, .int x2, .int x3, .int x4, .int x5, u6, u7], [], h) (none, r) := by
  intro n
  induction n with
  | zero => intros; rename_i hf; cases hf
  | succ n ih =>
    intro u6 u7 o0 x1 x2 x3 x4 x5 h r hu6 hu7 hf
    replace hf : ((if 6 < x5 then some h else l213_16 (l213_6 n) xFuel o0 x1 x2 x3 x4 x5 0 h)) = some r := hf
    refine ev_do i213_6 rfl ?_
    refine ev_do i213_8 rfl ?_
    refine ev_icmp (t := 81) i213_10 rfl (fun c_1 => ?_) (fun c_1 => ?_)
    · replace hf := x_pos (show 6 < x5 from c_1) hf
      obtain rfl := Option.some.inj hf
      exact sh_vret i213_81 m213 rfl
    · replace hf := x_neg (show ¬ 6 < x5 from c_1) hf
      refine ev_do i213_13 rfl ?_
      refine sh_istore (i' := 6) (n := 2) i213_14 (Or.inl rfl) (xokst_of (Nat.le_of_ble_eq_true rfl) rfl) ?_
      exact l213_16_ok hd ih xFuel hu7 hf
def fn213 (o0 : Option Nat) (x1 : Int32) (x2 : Int32) (x3 : Int32) (h : xH) : Option xH := l213_6 xFuel o0 x1 x2 x3 0 2 h
theorem fn213_call {xs : List Int32} {d : Nat} (hd : 8 ≤ d) {o0 : Option Nat} {x1 : Int32} {x2 : Int32} {x3 : Int32} {h : xH} {r : xH} (hf : fn213 o0 x1 x2 x3 h = some r) : xCall (xTa xs) d 213 [xrv o0, .int x1, .int x2, .int x3] h (none, r) := by
  obtain ⟨d, rfl⟩ : ∃ d2, d = d2 + 1 := ⟨d - 1, by omega⟩
  replace hd : 7 ≤ d := by omega
  refine call_of2 (fl := [xrv o0, .int x1, .int x2, .int x3]) (Ls := [xrv o0, .int x1, .int x2, .int x3, .float 0, .float 0, .float 0, .float 0]) m213 (by simp [xfl, xrv_cat, xc_i, xc_j, xc_a, xc_f]) (Nat.le_of_ble_eq_true rfl) rfl ?_
  unfold fn213 at hf
  refine ev_do i213_0 rfl ?_
  refine sh_istore (i' := 4) (n := 2) i213_1 (Or.inl rfl) (xokst_of (Nat.le_of_ble_eq_true rfl) rfl) ?_
  refine ev_do i213_3 rfl ?_
  refine sh_istore (i' := 5) (n := 2) i213_4 (Or.inl rfl) (xokst_of (Nat.le_of_ble_eq_true rfl) rfl) ?_
  exact l213_6_ok hd xFuel rfl rfl hf
end
section
def l214_366  : Nat → Option Nat → Int32 → Int32 → Int32 → Int32 → Int32 → xH → Option (Int32 × xH)
  | 0 => fun _ _ _ _ _ _ _ => none
  | n + 1 => fun o0 x1 x2 x3 x4 x5 h => (xgI h o0 11 59).bind fun v_1 => (if v_1 ≤ x5 then (xgI h o0 11 48).bind fun v_3 => (xpF h o0 11 56 .int (.int v_3)).bind fun h_4 => (xgI h_4 o0 11 49).bind fun v_5 => (xpF h_4 o0 11 57 .int (.int v_5)).bind fun h_6 => (xgI h_6 o0 11 55).bind fun v_7 => some (v_7, h_6) else (xgR h o0 11 58).bind fun a_8 => (xgR h o0 11 50).bind fun a_9 => (xaI h 13 a_9 x5).bind fun v_10 => (xaS h 13 (fun x => x) a_8 x5 v_10).bind fun h_11 => l214_366 n o0 x1 x2 x3 x4 (x5 + 1) h_11)
theorem l214_366_ok {xs : List Int32} {d : Nat} (hd : 8 ≤ d) : ∀ (n : Nat) {o0 : Option Nat} {x1 : Int32} {x2 : Int32} {x3 : Int32} {x4 : Int32} {x5 : Int32} {h : xH} {r : (Int32 × xH)}, l214_366 n o0 x1 x2 x3 x4 x5 h = some r → xEv (xTa xs) d 214 (366, [xrv o0, .int x1, .int x2, .int x3, .int x4, .int x5], [], h) (some (.int r.1), r.2) := by
  intro n
  induction n with
  | zero => intros; rename_i hf; cases hf
  | succ n ih =>
    intro o0 x1 x2 x3 x4 x5 h r hf
    replace hf : ((xgI h o0 11 59).bind fun v_1 => (if v_1 ≤ x5 then (xgI h o0 11 48).bind fun v_3 => (xpF h o0 11 56 .int (.int v_3)).bind fun h_4 => (xgI h_4 o0 11 49).bind fun v_5 => (xpF h_4 o0 11 57 .int (.int v_5)).bind fun h_6 => (xgI h_6 o0 11 55).bind fun v_7 => some (v_7, h_6) else (xgR h o0 11 58).bind fun a_8 => (xgR h o0 11 50).bind fun a_9 => (xaI h 13 a_9 x5).bind fun v_10 => (xaS h 13 (fun x => x) a_8 x5 v_10).bind fun h_11 => l214_366 n o0 x1 x2 x3 x4 (x5 + 1) h_11)) = some r := hf
    refine ev_do i214_366 rfl ?_
    refine sh_aload (i' := 0) (n := 1) i214_368 (Or.inr ⟨rfl, by decide⟩) rfl ?_
    obtain ⟨v_1, ev_1, hf⟩ := x_bind hf
    refine sh_getI i214_369 f214_446 ev_1 ?_
    refine ev_icmp (t := 395) i214_372 rfl (fun c_2 => ?_) (fun c_2 => ?_)
    · replace hf := x_pos (show v_1 ≤ x5 from c_2) hf
      refine sh_aload (i' := 0) (n := 1) i214_395 (Or.inr ⟨rfl, by decide⟩) rfl ?_
      refine sh_aload (i' := 0) (n := 1) i214_396 (Or.inr ⟨rfl, by decide⟩) rfl ?_
      obtain ⟨v_3, ev_3, hf⟩ := x_bind hf
      refine sh_getI i214_397 f214_415 ev_3 ?_
      obtain ⟨h_4, eh_4, hf⟩ := x_bind hf
      refine sh_put i214_400 f214_449 (by decide) rfl eh_4 ?_
      refine sh_aload (i' := 0) (n := 1) i214_403 (Or.inr ⟨rfl, by decide⟩) rfl ?_
      refine sh_aload (i' := 0) (n := 1) i214_404 (Or.inr ⟨rfl, by decide⟩) rfl ?_
      obtain ⟨v_5, ev_5, hf⟩ := x_bind hf
      refine sh_getI i214_405 f214_365 ev_5 ?_
      obtain ⟨h_6, eh_6, hf⟩ := x_bind hf
      refine sh_put i214_408 f214_452 (by decide) rfl eh_6 ?_
      refine sh_aload (i' := 0) (n := 1) i214_411 (Or.inr ⟨rfl, by decide⟩) rfl ?_
      obtain ⟨v_7, ev_7, hf⟩ := x_bind hf
      refine sh_getI i214_412 f214_443 ev_7 ?_
      obtain rfl := Option.some.inj hf
      exact sh_iret i214_415 m214 rfl rfl
    · replace hf := x_neg (show ¬ v_1 ≤ x5 from c_2) hf
      refine sh_aload (i' := 0) (n := 1) i214_375 (Or.inr ⟨rfl, by decide⟩) rfl ?_
      obtain ⟨a_8, ea_8, hf⟩ := x_bind hf
      refine sh_getR i214_376 f214_113 ea_8 ?_
      refine ev_do i214_379 rfl ?_
      refine sh_aload (i' := 0) (n := 1) i214_381 (Or.inr ⟨rfl, by decide⟩) rfl ?_
      obtain ⟨a_9, ea_9, hf⟩ := x_bind hf
      refine sh_getR i214_382 f214_104 ea_9 ?_
      refine ev_do i214_385 rfl ?_
      obtain ⟨v_10, ev_10, hf⟩ := x_bind hf
      refine sh_aldI (tg := 13) i214_387 (Or.inl ⟨rfl, rfl⟩) ev_10 ?_
      obtain ⟨h_11, eh_11, hf⟩ := x_bind hf
      refine sh_ast (tg := 13) i214_388 (Or.inl ⟨rfl, rfl, rfl⟩) eh_11 ?_
      refine sh_inc (i' := 5) i214_389 rfl (xokst_of (Nat.le_of_ble_eq_true rfl) rfl) rfl ?_
      refine sh_goto (t := 366) i214_392 rfl ?_
      exact ih hf
def l214_326  : Nat → Option Nat → Int32 → Int32 → Int32 → Int32 → Int32 → xH → Option (Int32 × xH)
  | 0 => fun _ _ _ _ _ _ _ => none
  | n + 1 => fun o0 x1 x2 x3 x4 x5 h => (xgI h o0 11 55).bind fun v_1 => (if v_1 ≤ x5 then (xgI h o0 11 51).bind fun v_3 => (xpF h o0 11 59 .int (.int v_3)).bind fun h_4 => l214_366 xFuel o0 x1 x2 x3 x4 0 h_4 else (xgR h o0 11 54).bind fun a_5 => (xgR h o0 11 46).bind fun a_6 => (xaI h 13 a_6 x5).bind fun v_7 => (xaS h 13 (fun x => x) a_5 x5 v_7).bind fun h_8 => l214_326 n o0 x1 x2 x3 x4 (x5 + 1) h_8)
theorem l214_326_ok {xs : List Int32} {d : Nat} (hd : 8 ≤ d) : ∀ (n : Nat) {o0 : Option Nat} {x1 : Int32} {x2 : Int32} {x3 : Int32} {x4 : Int32} {x5 : Int32} {h : xH} {r : (Int32 × xH)}, l214_326 n o0 x1 x2 x3 x4 x5 h = some r → xEv (xTa xs) d 214 (326, [xrv o0, .int x1, .int x2, .int x3, .int x4, .int x5], [], h) (some (.int r.1), r.2) := by
  intro n
  induction n with
  | zero => intros; rename_i hf; cases hf
  | succ n ih =>
    intro o0 x1 x2 x3 x4 x5 h r hf
    replace hf : ((xgI h o0 11 55).bind fun v_1 => (if v_1 ≤ x5 then (xgI h o0 11 51).bind fun v_3 => (xpF h o0 11 59 .int (.int v_3)).bind fun h_4 => l214_366 xFuel o0 x1 x2 x3 x4 0 h_4 else (xgR h o0 11 54).bind fun a_5 => (xgR h o0 11 46).bind fun a_6 => (xaI h 13 a_6 x5).bind fun v_7 => (xaS h 13 (fun x => x) a_5 x5 v_7).bind fun h_8 => l214_326 n o0 x1 x2 x3 x4 (x5 + 1) h_8)) = some r := hf
    refine ev_do i214_326 rfl ?_
    refine sh_aload (i' := 0) (n := 1) i214_328 (Or.inr ⟨rfl, by decide⟩) rfl ?_
    obtain ⟨v_1, ev_1, hf⟩ := x_bind hf
    refine sh_getI i214_329 f214_443 ev_1 ?_
    refine ev_icmp (t := 355) i214_332 rfl (fun c_2 => ?_) (fun c_2 => ?_)
    · replace hf := x_pos (show v_1 ≤ x5 from c_2) hf
      refine sh_aload (i' := 0) (n := 1) i214_355 (Or.inr ⟨rfl, by decide⟩) rfl ?_
      refine sh_aload (i' := 0) (n := 1) i214_356 (Or.inr ⟨rfl, by decide⟩) rfl ?_
      obtain ⟨v_3, ev_3, hf⟩ := x_bind hf
      refine sh_getI i214_357 f214_386 ev_3 ?_
      obtain ⟨h_4, eh_4, hf⟩ := x_bind hf
      refine sh_put i214_360 f214_446 (by decide) rfl eh_4 ?_
      refine ev_do i214_363 rfl ?_
      refine sh_istore (i' := 5) (n := 2) i214_364 (Or.inl rfl) (xokst_of (Nat.le_of_ble_eq_true rfl) rfl) ?_
      exact l214_366_ok hd xFuel hf
    · replace hf := x_neg (show ¬ v_1 ≤ x5 from c_2) hf
      refine sh_aload (i' := 0) (n := 1) i214_335 (Or.inr ⟨rfl, by decide⟩) rfl ?_
      obtain ⟨a_5, ea_5, hf⟩ := x_bind hf
      refine sh_getR i214_336 f214_110 ea_5 ?_
      refine ev_do i214_339 rfl ?_
      refine sh_aload (i' := 0) (n := 1) i214_341 (Or.inr ⟨rfl, by decide⟩) rfl ?_
      obtain ⟨a_6, ea_6, hf⟩ := x_bind hf
      refine sh_getR i214_342 f214_101 ea_6 ?_
      refine ev_do i214_345 rfl ?_
      obtain ⟨v_7, ev_7, hf⟩ := x_bind hf
      refine sh_aldI (tg := 13) i214_347 (Or.inl ⟨rfl, rfl⟩) ev_7 ?_
      obtain ⟨h_8, eh_8, hf⟩ := x_bind hf
      refine sh_ast (tg := 13) i214_348 (Or.inl ⟨rfl, rfl, rfl⟩) eh_8 ?_
      refine sh_inc (i' := 5) i214_349 rfl (xokst_of (Nat.le_of_ble_eq_true rfl) rfl) rfl ?_
      refine sh_goto (t := 326) i214_352 rfl ?_
      exact ih hf
def l214_286  : Nat → Option Nat → Int32 → Int32 → Int32 → Int32 → Int32 → xH → Option (Int32 × xH)
  | 0 => fun _ _ _ _ _ _ _ => none
  | n + 1 => fun o0 x1 x2 x3 x4 x5 h => (xgI h o0 11 53).bind fun v_1 => (if v_1 ≤ x5 then (xgI h o0 11 47).bind fun v_3 => (xpF h o0 11 55 .int (.int v_3)).bind fun h_4 => l214_326 xFuel o0 x1 x2 x3 x4 0 h_4 else (xgR h o0 11 52).bind fun a_5 => (xgR h o0 11 44).bind fun a_6 => (xaI h 13 a_6 x5).bind fun v_7 => (xaS h 13 (fun x => x) a_5 x5 v_7).bind fun h_8 => l214_286 n o0 x1 x2 x3 x4 (x5 + 1) h_8)
theorem l214_286_ok {xs : List Int32} {d : Nat} (hd : 8 ≤ d) : ∀ (n : Nat) {o0 : Option Nat} {x1 : Int32} {x2 : Int32} {x3 : Int32} {x4 : Int32} {x5 : Int32} {h : xH} {r : (Int32 × xH)}, l214_286 n o0 x1 x2 x3 x4 x5 h = some r → xEv (xTa xs) d 214 (286, [xrv o0, .int x1, .int x2, .int x3, .int x4, .int x5], [], h) (some (.int r.1), r.2) := by
  intro n
  induction n with
  | zero => intros; rename_i hf; cases hf
  | succ n ih =>
    intro o0 x1 x2 x3 x4 x5 h r hf
    replace hf : ((xgI h o0 11 53).bind fun v_1 => (if v_1 ≤ x5 then (xgI h o0 11 47).bind fun v_3 => (xpF h o0 11 55 .int (.int v_3)).bind fun h_4 => l214_326 xFuel o0 x1 x2 x3 x4 0 h_4 else (xgR h o0 11 52).bind fun a_5 => (xgR h o0 11 44).bind fun a_6 => (xaI h 13 a_6 x5).bind fun v_7 => (xaS h 13 (fun x => x) a_5 x5 v_7).bind fun h_8 => l214_286 n o0 x1 x2 x3 x4 (x5 + 1) h_8)) = some r := hf
    refine ev_do i214_286 rfl ?_
    refine sh_aload (i' := 0) (n := 1) i214_288 (Or.inr ⟨rfl, by decide⟩) rfl ?_
    obtain ⟨v_1, ev_1, hf⟩ := x_bind hf
    refine sh_getI i214_289 f214_440 ev_1 ?_
    refine ev_icmp (t := 315) i214_292 rfl (fun c_2 => ?_) (fun c_2 => ?_)
    · replace hf := x_pos (show v_1 ≤ x5 from c_2) hf
      refine sh_aload (i' := 0) (n := 1) i214_315 (Or.inr ⟨rfl, by decide⟩) rfl ?_
      refine sh_aload (i' := 0) (n := 1) i214_316 (Or.inr ⟨rfl, by decide⟩) rfl ?_
      obtain ⟨v_3, ev_3, hf⟩ := x_bind hf
      refine sh_getI i214_317 f214_362 ev_3 ?_
      obtain ⟨h_4, eh_4, hf⟩ := x_bind hf
      refine sh_put i214_320 f214_443 (by decide) rfl eh_4 ?_
      refine ev_do i214_323 rfl ?_
      refine sh_istore (i' := 5) (n := 2) i214_324 (Or.inl rfl) (xokst_of (Nat.le_of_ble_eq_true rfl) rfl) ?_
      exact l214_326_ok hd xFuel hf
    · replace hf := x_neg (show ¬ v_1 ≤ x5 from c_2) hf
      refine sh_aload (i' := 0) (n := 1) i214_295 (Or.inr ⟨rfl, by decide⟩) rfl ?_
      obtain ⟨a_5, ea_5, hf⟩ := x_bind hf
      refine sh_getR i214_296 f214_107 ea_5 ?_
      refine ev_do i214_299 rfl ?_
      refine sh_aload (i' := 0) (n := 1) i214_301 (Or.inr ⟨rfl, by decide⟩) rfl ?_
      obtain ⟨a_6, ea_6, hf⟩ := x_bind hf
      refine sh_getR i214_302 f214_98 ea_6 ?_
      refine ev_do i214_305 rfl ?_
      obtain ⟨v_7, ev_7, hf⟩ := x_bind hf
      refine sh_aldI (tg := 13) i214_307 (Or.inl ⟨rfl, rfl⟩) ev_7 ?_
      obtain ⟨h_8, eh_8, hf⟩ := x_bind hf
      refine sh_ast (tg := 13) i214_308 (Or.inl ⟨rfl, rfl, rfl⟩) eh_8 ?_
      refine sh_inc (i' := 5) i214_309 rfl (xokst_of (Nat.le_of_ble_eq_true rfl) rfl) rfl ?_
      refine sh_goto (t := 286) i214_312 rfl ?_
      exact ih hf
def j214_211 (k193 : Option Nat → Int32 → Int32 → Int32 → Int32 → Int32 → xH → Option (Int32 × xH)) (o0 : Option Nat) (x1 : Int32) (x2 : Int32) (x3 : Int32) (x4 : Int32) (x5 : Int32) (h : xH) : Option (Int32 × xH) := (xcv h o0 11).bind fun _ => (fn197 o0 h).bind fun h_1 => (xcv h_1 o0 11).bind fun _ => (fn195 o0 91 h_1).bind fun h_2 => (xcv h_2 o0 11).bind fun _ => (fn196 o0 (x5 + 1) h_2).bind fun h_3 => (xcv h_3 o0 11).bind fun _ => (fn195 o0 93 h_3).bind fun h_4 => (xcv h_4 o0 11).bind fun _ => (fn195 o0 32 h_4).bind fun h_5 => (xgR h_5 o0 11 50).bind fun a_6 => (xaI h_5 13 a_6 x5).bind fun v_7 => (xcv h_5 o0 11).bind fun _ => (fn200 o0 v_7 h_5).bind fun h_8 => (xcv h_8 o0 11).bind fun _ => (fn198 o0 h_8).bind fun h_9 => k193 o0 x1 x2 x3 x4 (x5 + 1) h_9
theorem j214_211_ok {xs : List Int32} {d : Nat} (hd : 8 ≤ d) {k193 : Option Nat → Int32 → Int32 → Int32 → Int32 → Int32 → xH → Option (Int32 × xH)} (hk193 : ∀ {o0 : Option Nat} {x1 : Int32} {x2 : Int32} {x3 : Int32} {x4 : Int32} {x5 : Int32} {h : xH} {r : (Int32 × xH)}, k193 o0 x1 x2 x3 x4 x5 h = some r → xEv (xTa xs) d 214 (193, [xrv o0, .int x1, .int x2, .int x3, .int x4, .int x5], [], h) (some (.int r.1), r.2)) {o0 : Option Nat} {x1 : Int32} {x2 : Int32} {x3 : Int32} {x4 : Int32} {x5 : Int32} {h : xH} {r : (Int32 × xH)} (hf : j214_211 k193 o0 x1 x2 x3 x4 x5 h = some r) : xEv (xTa xs) d 214 (211, [xrv o0, .int x1, .int x2, .int x3, .int x4, .int x5], [], h) (some (.int r.1), r.2) := by
  unfold j214_211 at hf
  refine sh_aload (i' := 0) (n := 1) i214_211 (Or.inr ⟨rfl, by decide⟩) rfl ?_
  obtain ⟨_, eu_16, hf⟩ := x_bind hf
  obtain ⟨h_1, eh_1, hf⟩ := x_bind hf
  refine sh_inv (as := []) (z := (none, h_1)) i214_212 v214_368 (Or.inl ⟨by decide, rfl⟩) m197 rfl (Nat.le_of_ble_eq_true rfl) eu_16 (fn197_call (by omega) eh_1) ?_
  refine sh_aload (i' := 0) (n := 1) i214_215 (Or.inr ⟨rfl, by decide⟩) rfl ?_
  refine ev_do i214_216 rfl ?_
  obtain ⟨_, eu_15, hf⟩ := x_bind hf
  obtain ⟨h_2, eh_2, hf⟩ := x_bind hf
  refine sh_inv (as := [.int 91]) (z := (none, h_2)) i214_218 v214_359 (Or.inl ⟨by decide, rfl⟩) m195 rfl (Nat.le_of_ble_eq_true rfl) eu_15 (fn195_call (by omega) eh_2) ?_
  refine sh_aload (i' := 0) (n := 1) i214_221 (Or.inr ⟨rfl, by decide⟩) rfl ?_
  refine ev_do i214_222 rfl ?_
  refine ev_do i214_224 rfl ?_
  refine ev_do i214_225 rfl ?_
  obtain ⟨_, eu_14, hf⟩ := x_bind hf
  obtain ⟨h_3, eh_3, hf⟩ := x_bind hf
  refine sh_inv (as := [.int (x5 + 1)]) (z := (none, h_3)) i214_226 v214_437 (Or.inl ⟨by decide, rfl⟩) m196 rfl (Nat.le_of_ble_eq_true rfl) eu_14 (fn196_call (by omega) eh_3) ?_
  refine sh_aload (i' := 0) (n := 1) i214_229 (Or.inr ⟨rfl, by decide⟩) rfl ?_
  refine ev_do i214_230 rfl ?_
  obtain ⟨_, eu_13, hf⟩ := x_bind hf
  obtain ⟨h_4, eh_4, hf⟩ := x_bind hf
  refine sh_inv (as := [.int 93]) (z := (none, h_4)) i214_232 v214_359 (Or.inl ⟨by decide, rfl⟩) m195 rfl (Nat.le_of_ble_eq_true rfl) eu_13 (fn195_call (by omega) eh_4) ?_
  refine sh_aload (i' := 0) (n := 1) i214_235 (Or.inr ⟨rfl, by decide⟩) rfl ?_
  refine ev_do i214_236 rfl ?_
  obtain ⟨_, eu_12, hf⟩ := x_bind hf
  obtain ⟨h_5, eh_5, hf⟩ := x_bind hf
  refine sh_inv (as := [.int 32]) (z := (none, h_5)) i214_238 v214_359 (Or.inl ⟨by decide, rfl⟩) m195 rfl (Nat.le_of_ble_eq_true rfl) eu_12 (fn195_call (by omega) eh_5) ?_
  refine sh_aload (i' := 0) (n := 1) i214_241 (Or.inr ⟨rfl, by decide⟩) rfl ?_
  refine sh_aload (i' := 0) (n := 1) i214_242 (Or.inr ⟨rfl, by decide⟩) rfl ?_
  obtain ⟨a_6, ea_6, hf⟩ := x_bind hf
  refine sh_getR i214_243 f214_104 ea_6 ?_
  refine ev_do i214_246 rfl ?_
  obtain ⟨v_7, ev_7, hf⟩ := x_bind hf
  refine sh_aldI (tg := 13) i214_248 (Or.inl ⟨rfl, rfl⟩) ev_7 ?_
  obtain ⟨_, eu_11, hf⟩ := x_bind hf
  obtain ⟨h_8, eh_8, hf⟩ := x_bind hf
  refine sh_inv (as := [.int v_7]) (z := (none, h_8)) i214_249 v214_427 (Or.inl ⟨by decide, rfl⟩) m200 rfl (Nat.le_of_ble_eq_true rfl) eu_11 (fn200_call (by omega) eh_8) ?_
  refine sh_aload (i' := 0) (n := 1) i214_252 (Or.inr ⟨rfl, by decide⟩) rfl ?_
  obtain ⟨_, eu_10, hf⟩ := x_bind hf
  obtain ⟨h_9, eh_9, hf⟩ := x_bind hf
  refine sh_inv (as := []) (z := (none, h_9)) i214_253 v214_371 (Or.inl ⟨by decide, rfl⟩) m198 rfl (Nat.le_of_ble_eq_true rfl) eu_10 (fn198_call (by omega) eh_9) ?_
  refine sh_inc (i' := 5) i214_256 rfl (xokst_of (Nat.le_of_ble_eq_true rfl) rfl) rfl ?_
  refine sh_goto (t := 193) i214_259 rfl ?_
  exact hk193 hf
def l214_193  : Nat → Option Nat → Int32 → Int32 → Int32 → Int32 → Int32 → xH → Option (Int32 × xH)
  | 0 => fun _ _ _ _ _ _ _ => none
  | n + 1 => fun o0 x1 x2 x3 x4 x5 h => (xgI h o0 11 51).bind fun v_1 => (if v_1 ≤ x5 then (xgI h o0 11 45).bind fun v_3 => (if v_3 ≤ 4000 then (xgI h o0 11 45).bind fun v_5 => (xpF h o0 11 53 .int (.int v_5)).bind fun h_6 => l214_286 xFuel o0 x1 x2 x3 x4 0 h_6 else some ((-3), h)) else (if x5 = 0 then (xcv h o0 11).bind fun _ => (fn199 o0 h).bind fun h_8 => j214_211 (l214_193 n) o0 x1 x2 x3 x4 x5 h_8 else j214_211 (l214_193 n) o0 x1 x2 x3 x4 x5 h))
theorem l214_193_ok {xs : List Int32} {d : Nat} (hd : 8 ≤ d) : ∀ (n : Nat) {o0 : Option Nat} {x1 : Int32} {x2 : Int32} {x3 : Int32} {x4 : Int32} {x5 : Int32} {h : xH} {r : (Int32 × xH)}, l214_193 n o0 x1 x2 x3 x4 x5 h = some r → xEv (xTa xs) d 214 (193, [xrv o0, .int x1, .int x2, .int x3, .int x4, .int x5], [], h) (some (.int r.1), r.2) := by
  intro n
  induction n with
  | zero => intros; rename_i hf; cases hf
  | succ n ih =>
    intro o0 x1 x2 x3 x4 x5 h r hf
    replace hf : ((xgI h o0 11 51).bind fun v_1 => (if v_1 ≤ x5 then (xgI h o0 11 45).bind fun v_3 => (if v_3 ≤ 4000 then (xgI h o0 11 45).bind fun v_5 => (xpF h o0 11 53 .int (.int v_5)).bind fun h_6 => l214_286 xFuel o0 x1 x2 x3 x4 0 h_6 else some ((-3), h)) else (if x5 = 0 then (xcv h o0 11).bind fun _ => (fn199 o0 h).bind fun h_8 => j214_211 (l214_193 n) o0 x1 x2 x3 x4 x5 h_8 else j214_211 (l214_193 n) o0 x1 x2 x3 x4 x5 h))) = some r := hf
    refine ev_do i214_193 rfl ?_
    refine sh_aload (i' := 0) (n := 1) i214_195 (Or.inr ⟨rfl, by decide⟩) rfl ?_
    obtain ⟨v_1, ev_1, hf⟩ := x_bind hf
    refine sh_getI i214_196 f214_386 ev_1 ?_
    refine ev_icmp (t := 262) i214_199 rfl (fun c_2 => ?_) (fun c_2 => ?_)
    · replace hf := x_pos (show v_1 ≤ x5 from c_2) hf
      refine sh_aload (i' := 0) (n := 1) i214_262 (Or.inr ⟨rfl, by decide⟩) rfl ?_
      obtain ⟨v_3, ev_3, hf⟩ := x_bind hf
      refine sh_getI i214_263 f214_356 ev_3 ?_
      refine ev_do i214_266 rfl ?_
      refine ev_icmp (t := 275) i214_269 rfl (fun c_4 => ?_) (fun c_4 => ?_)
      · replace hf := x_pos (show v_3 ≤ 4000 from c_4) hf
        refine sh_aload (i' := 0) (n := 1) i214_275 (Or.inr ⟨rfl, by decide⟩) rfl ?_
        refine sh_aload (i' := 0) (n := 1) i214_276 (Or.inr ⟨rfl, by decide⟩) rfl ?_
        obtain ⟨v_5, ev_5, hf⟩ := x_bind hf
        refine sh_getI i214_277 f214_356 ev_5 ?_
        obtain ⟨h_6, eh_6, hf⟩ := x_bind hf
        refine sh_put i214_280 f214_440 (by decide) rfl eh_6 ?_
        refine ev_do i214_283 rfl ?_
        refine sh_istore (i' := 5) (n := 2) i214_284 (Or.inl rfl) (xokst_of (Nat.le_of_ble_eq_true rfl) rfl) ?_
        exact l214_286_ok hd xFuel hf
      · replace hf := x_neg (show ¬ v_3 ≤ 4000 from c_4) hf
        refine ev_do i214_272 rfl ?_
        obtain rfl := Option.some.inj hf
        exact sh_iret i214_274 m214 rfl rfl
    · replace hf := x_neg (show ¬ v_1 ≤ x5 from c_2) hf
      refine ev_do i214_202 rfl ?_
      refine ev_if (t := 211) i214_204 rfl (fun c_7 => ?_) (fun c_7 => ?_)
      · replace hf := x_neg (show ¬ x5 = 0 from c_7) hf
        exact j214_211_ok hd ih hf
      · replace hf := x_pos (show x5 = 0 from Decidable.byContradiction (fun h9 => c_7 h9)) hf
        refine sh_aload (i' := 0) (n := 1) i214_207 (Or.inr ⟨rfl, by decide⟩) rfl ?_
        obtain ⟨_, eu_9, hf⟩ := x_bind hf
        obtain ⟨h_8, eh_8, hf⟩ := x_bind hf
        refine sh_inv (as := []) (z := (none, h_8)) i214_208 v214_421 (Or.inl ⟨by decide, rfl⟩) m199 rfl (Nat.le_of_ble_eq_true rfl) eu_9 (fn199_call (by omega) eh_8) ?_
        exact j214_211_ok hd ih hf
def j214_190  (o0 : Option Nat) (x1 : Int32) (x2 : Int32) (x3 : Int32) (x4 : Int32) (x5 : Int32) (h : xH) : Option (Int32 × xH) := l214_193 xFuel o0 x1 x2 x3 x4 0 h
theorem j214_190_ok {xs : List Int32} {d : Nat} (hd : 8 ≤ d) {o0 : Option Nat} {x1 : Int32} {x2 : Int32} {x3 : Int32} {x4 : Int32} {x5 : Int32} {h : xH} {r : (Int32 × xH)} (hf : j214_190 o0 x1 x2 x3 x4 x5 h = some r) : xEv (xTa xs) d 214 (190, [xrv o0, .int x1, .int x2, .int x3, .int x4, .int x5], [], h) (some (.int r.1), r.2) := by
  unfold j214_190 at hf
  refine ev_do i214_190 rfl ?_
  refine sh_istore (i' := 5) (n := 2) i214_191 (Or.inl rfl) (xokst_of (Nat.le_of_ble_eq_true rfl) rfl) ?_
  exact l214_193_ok hd xFuel hf
def j214_187  (o0 : Option Nat) (x1 : Int32) (x2 : Int32) (x3 : Int32) (x4 : Int32) (x5 : Int32) (s0 : Option Nat) (s1 : Int32) (s2 : Int32) (s3 : Int32) (h : xH) : Option (Int32 × xH) := (xcv h s0 11).bind fun _ => (fn213 s0 s1 s2 s3 h).bind fun h_1 => j214_190 o0 x1 x2 x3 x4 x5 h_1
theorem j214_187_ok {xs : List Int32} {d : Nat} (hd : 8 ≤ d) {o0 : Option Nat} {x1 : Int32} {x2 : Int32} {x3 : Int32} {x4 : Int32} {x5 : Int32} {s0 : Option Nat} {s1 : Int32} {s2 : Int32} {s3 : Int32} {h : xH} {r : (Int32 × xH)} (hf : j214_187 o0 x1 x2 x3 x4 x5 s0 s1 s2 s3 h = some r) : xEv (xTa xs) d 214 (187, [xrv o0, .int x1, .int x2, .int x3, .int x4, .int x5], [.int s3, .int s2, .int s1, xrv s0], h) (some (.int r.1), r.2) := by
  unfold j214_187 at hf
  obtain ⟨_, eu_2, hf⟩ := x_bind hf
  obtain ⟨h_1, eh_1, hf⟩ := x_bind hf
  refine sh_inv (as := [.int s3, .int s2, .int s1]) (z := (none, h_1)) i214_187 v214_433 (Or.inl ⟨by decide, rfl⟩) m213 rfl (Nat.le_of_ble_eq_true rfl) eu_2 (fn213_call (by omega) eh_1) ?_
  exact j214_190_ok hd hf
def j214_157  (o0 : Option Nat) (x1 : Int32) (x2 : Int32) (x3 : Int32) (x4 : Int32) (x5 : Int32) (h : xH) : Option (Int32 × xH) := (if x4 = (-1) then j214_190 o0 x1 x2 x3 x4 x5 h else (xgI h o0 11 45).bind fun v_2 => (if 4000 < v_2 then j214_190 o0 x1 x2 x3 x4 x5 h else (if x3 = 1 then j214_187 o0 x1 x2 x3 x4 x5 o0 x4 x2 1 h else j214_187 o0 x1 x2 x3 x4 x5 o0 x4 x2 0 h)))
theorem j214_157_ok {xs : List Int32} {d : Nat} (hd : 8 ≤ d) {o0 : Option Nat} {x1 : Int32} {x2 : Int32} {x3 : Int32} {x4 : Int32} {x5 : Int32} {h : xH} {r : (Int32 × xH)} (hf : j214_157 o0 x1 x2 x3 x4 x5 h = some r) : xEv (xTa xs) d 214 (157, [xrv o0, .int x1, .int x2, .int x3, .int x4, .int x5], [], h) (some (.int r.1), r.2) := by
  unfold j214_157 at hf
  refine ev_do i214_157 rfl ?_
  refine ev_do i214_159 rfl ?_
  refine ev_icmp (t := 190) i214_160 rfl (fun c_1 => ?_) (fun c_1 => ?_)
  · replace hf := x_pos (show x4 = (-1) from c_1) hf
    exact j214_190_ok hd hf
  · replace hf := x_neg (show ¬ x4 = (-1) from c_1) hf
    refine sh_aload (i' := 0) (n := 1) i214_163 (Or.inr ⟨rfl, by decide⟩) rfl ?_
    obtain ⟨v_2, ev_2, hf⟩ := x_bind hf
    refine sh_getI i214_164 f214_356 ev_2 ?_
    refine ev_do i214_167 rfl ?_
    refine ev_icmp (t := 190) i214_170 rfl (fun c_3 => ?_) (fun c_3 => ?_)
    · replace hf := x_pos (show 4000 < v_2 from c_3) hf
      exact j214_190_ok hd hf
    · replace hf := x_neg (show ¬ 4000 < v_2 from c_3) hf
      refine sh_aload (i' := 0) (n := 1) i214_173 (Or.inr ⟨rfl, by decide⟩) rfl ?_
      refine ev_do i214_174 rfl ?_
      refine ev_do i214_176 rfl ?_
      refine ev_do i214_177 rfl ?_
      refine ev_do i214_178 rfl ?_
      refine ev_icmp (t := 186) i214_179 rfl (fun c_4 => ?_) (fun c_4 => ?_)
      · replace hf := x_neg (show ¬ x3 = 1 from c_4) hf
        refine ev_do i214_186 rfl ?_
        exact j214_187_ok hd hf
      · replace hf := x_pos (show x3 = 1 from Decidable.byContradiction (fun h9 => c_4 h9)) hf
        refine ev_do i214_182 rfl ?_
        refine sh_goto (t := 187) i214_183 rfl ?_
        exact j214_187_ok hd hf
def j214_148 (k84 : Option Nat → Int32 → Int32 → Int32 → Int32 → Int32 → xH → Option (Int32 × xH)) (o0 : Option Nat) (x1 : Int32) (x2 : Int32) (x3 : Int32) (x4 : Int32) (x5 : Int32) (s0 : Option Nat) (s1 : Int32) (s2 : Int32) (s3 : Int32) (s4 : Int32) (h : xH) : Option (Int32 × xH) := (xcv h s0 11).bind fun _ => (fn211 s0 s1 s2 s3 s4 h).bind fun h_1 => k84 o0 x1 x2 x3 x4 (x5 + 1) h_1
theorem j214_148_ok {xs : List Int32} {d : Nat} (hd : 8 ≤ d) {k84 : Option Nat → Int32 → Int32 → Int32 → Int32 → Int32 → xH → Option (Int32 × xH)} (hk84 : ∀ {o0 : Option Nat} {x1 : Int32} {x2 : Int32} {x3 : Int32} {x4 : Int32} {x5 : Int32} {h : xH} {r : (Int32 × xH)}, k84 o0 x1 x2 x3 x4 x5 h = some r → xEv (xTa xs) d 214 (84, [xrv o0, .int x1, .int x2, .int x3, .int x4, .int x5], [], h) (some (.int r.1), r.2)) {o0 : Option Nat} {x1 : Int32} {x2 : Int32} {x3 : Int32} {x4 : Int32} {x5 : Int32} {s0 : Option Nat} {s1 : Int32} {s2 : Int32} {s3 : Int32} {s4 : Int32} {h : xH} {r : (Int32 × xH)} (hf : j214_148 k84 o0 x1 x2 x3 x4 x5 s0 s1 s2 s3 s4 h = some r) : xEv (xTa xs) d 214 (148, [xrv o0, .int x1, .int x2, .int x3, .int x4, .int x5], [.int s4, .int s3, .int s2, .int s1, xrv s0], h) (some (.int r.1), r.2) := by
  unfold j214_148 at hf
  obtain ⟨_, eu_2, hf⟩ := x_bind hf
  obtain ⟨h_1, eh_1, hf⟩ := x_bind hf
  refine sh_inv (as := [.int s4, .int s3, .int s2, .int s1]) (z := (none, h_1)) i214_148 v214_424 (Or.inl ⟨by decide, rfl⟩) m211 rfl (Nat.le_of_ble_eq_true rfl) eu_2 (fn211_call (by omega) eh_1) ?_
  refine sh_inc (i' := 5) i214_151 rfl (xokst_of (Nat.le_of_ble_eq_true rfl) rfl) rfl ?_
  refine sh_goto (t := 84) i214_154 rfl ?_
  exact hk84 hf
def j214_122 (k84 : Option Nat → Int32 → Int32 → Int32 → Int32 → Int32 → xH → Option (Int32 × xH)) (o0 : Option Nat) (x1 : Int32) (x2 : Int32) (x3 : Int32) (x4 : Int32) (x5 : Int32) (h : xH) : Option (Int32 × xH) := (xgR h o0 11 66).bind fun a_1 => (xaI h 13 a_1 x5).bind fun v_2 => (xgR h o0 11 67).bind fun a_3 => (xaI h 13 a_3 x5).bind fun v_4 => (if x3 = 1 then j214_148 k84 o0 x1 x2 x3 x4 x5 o0 v_2 v_4 x2 1 h else j214_148 k84 o0 x1 x2 x3 x4 x5 o0 v_2 v_4 x2 0 h)
theorem j214_122_ok {xs : List Int32} {d : Nat} (hd : 8 ≤ d) {k84 : Option Nat → Int32 → Int32 → Int32 → Int32 → Int32 → xH → Option (Int32 × xH)} (hk84 : ∀ {o0 : Option Nat} {x1 : Int32} {x2 : Int32} {x3 : Int32} {x4 : Int32} {x5 : Int32} {h : xH} {r : (Int32 × xH)}, k84 o0 x1 x2 x3 x4 x5 h = some r → xEv (xTa xs) d 214 (84, [xrv o0, .int x1, .int x2, .int x3, .int x4, .int x5], [], h) (some (.int r.1), r.2)) {o0 : Option Nat} {x1 : Int32} {x2 : Int32} {x3 : Int32} {x4 : Int32} {x5 : Int32} {h : xH} {r : (Int32 × xH)} (hf : j214_122 k84 o0 x1 x2 x3 x4 x5 h = some r) : xEv (xTa xs) d 214 (122, [xrv o0, .int x1, .int x2, .int x3, .int x4, .int x5], [], h) (some (.int r.1), r.2) := by
  unfold j214_122 at hf
  refine sh_aload (i' := 0) (n := 1) i214_122 (Or.inr ⟨rfl, by decide⟩) rfl ?_
  refine sh_aload (i' := 0) (n := 1) i214_123 (Or.inr ⟨rfl, by decide⟩) rfl ?_
  obtain ⟨a_1, ea_1, hf⟩ := x_bind hf
  refine sh_getR i214_124 f214_128 ea_1 ?_
  refine ev_do i214_127 rfl ?_
  obtain ⟨v_2, ev_2, hf⟩ := x_bind hf
  refine sh_aldI (tg := 13) i214_129 (Or.inl ⟨rfl, rfl⟩) ev_2 ?_
  refine sh_aload (i' := 0) (n := 1) i214_130 (Or.inr ⟨rfl, by decide⟩) rfl ?_
  obtain ⟨a_3, ea_3, hf⟩ := x_bind hf
  refine sh_getR i214_131 f214_131 ea_3 ?_
  refine ev_do i214_134 rfl ?_
  obtain ⟨v_4, ev_4, hf⟩ := x_bind hf
  refine sh_aldI (tg := 13) i214_136 (Or.inl ⟨rfl, rfl⟩) ev_4 ?_
  refine ev_do i214_137 rfl ?_
  refine ev_do i214_138 rfl ?_
  refine ev_do i214_139 rfl ?_
  refine ev_icmp (t := 147) i214_140 rfl (fun c_5 => ?_) (fun c_5 => ?_)
  · replace hf := x_neg (show ¬ x3 = 1 from c_5) hf
    refine ev_do i214_147 rfl ?_
    exact j214_148_ok hd hk84 hf
  · replace hf := x_pos (show x3 = 1 from Decidable.byContradiction (fun h9 => c_5 h9)) hf
    refine ev_do i214_143 rfl ?_
    refine sh_goto (t := 148) i214_144 rfl ?_
    exact j214_148_ok hd hk84 hf
def l214_84  : Nat → Option Nat → Int32 → Int32 → Int32 → Int32 → Int32 → xH → Option (Int32 × xH)
  | 0 => fun _ _ _ _ _ _ _ => none
  | n + 1 => fun o0 x1 x2 x3 x4 x5 h => (xgI h o0 11 68).bind fun v_1 => (if v_1 ≤ x5 then j214_157 o0 x1 x2 x3 x4 x5 h else (xgI h o0 11 45).bind fun v_3 => (if 4000 < v_3 then j214_157 o0 x1 x2 x3 x4 x5 h else (xgR h o0 11 23).bind fun a_5 => (xgR h o0 11 67).bind fun a_6 => (xaI h 13 a_6 x5).bind fun v_7 => (xaI h 14 a_5 v_7).bind fun v_8 => (if v_8 = 0 then (xcv h o0 11).bind fun _ => (fn199 o0 h).bind fun h_10 => j214_122 (l214_84 n) o0 x1 x2 x3 x4 x5 h_10 else j214_122 (l214_84 n) o0 x1 x2 x3 x4 x5 h)))
theorem l214_84_ok {xs : List Int32} {d : Nat} (hd : 8 ≤ d) : ∀ (n : Nat) {o0 : Option Nat} {x1 : Int32} {x2 : Int32} {x3 : Int32} {x4 : Int32} {x5 : Int32} {h : xH} {r : (Int32 × xH)}, l214_84 n o0 x1 x2 x3 x4 x5 h = some r → xEv (xTa xs) d 214 (84, [xrv o0, .int x1, .int x2, .int x3, .int x4, .int x5], [], h) (some (.int r.1), r.2) := by
  intro n
  induction n with
  | zero => intros; rename_i hf; cases hf
  | succ n ih =>
    intro o0 x1 x2 x3 x4 x5 h r hf
    replace hf : ((xgI h o0 11 68).bind fun v_1 => (if v_1 ≤ x5 then j214_157 o0 x1 x2 x3 x4 x5 h else (xgI h o0 11 45).bind fun v_3 => (if 4000 < v_3 then j214_157 o0 x1 x2 x3 x4 x5 h else (xgR h o0 11 23).bind fun a_5 => (xgR h o0 11 67).bind fun a_6 => (xaI h 13 a_6 x5).bind fun v_7 => (xaI h 14 a_5 v_7).bind fun v_8 => (if v_8 = 0 then (xcv h o0 11).bind fun _ => (fn199 o0 h).bind fun h_10 => j214_122 (l214_84 n) o0 x1 x2 x3 x4 x5 h_10 else j214_122 (l214_84 n) o0 x1 x2 x3 x4 x5 h)))) = some r := hf
    refine ev_do i214_84 rfl ?_
    refine sh_aload (i' := 0) (n := 1) i214_86 (Or.inr ⟨rfl, by decide⟩) rfl ?_
    obtain ⟨v_1, ev_1, hf⟩ := x_bind hf
    refine sh_getI i214_87 f214_418 ev_1 ?_
    refine ev_icmp (t := 157) i214_90 rfl (fun c_2 => ?_) (fun c_2 => ?_)
    · replace hf := x_pos (show v_1 ≤ x5 from c_2) hf
      exact j214_157_ok hd hf
    · replace hf := x_neg (show ¬ v_1 ≤ x5 from c_2) hf
      refine sh_aload (i' := 0) (n := 1) i214_93 (Or.inr ⟨rfl, by decide⟩) rfl ?_
      obtain ⟨v_3, ev_3, hf⟩ := x_bind hf
      refine sh_getI i214_94 f214_356 ev_3 ?_
      refine ev_do i214_97 rfl ?_
      refine ev_icmp (t := 157) i214_100 rfl (fun c_4 => ?_) (fun c_4 => ?_)
      · replace hf := x_pos (show 4000 < v_3 from c_4) hf
        exact j214_157_ok hd hf
      · replace hf := x_neg (show ¬ 4000 < v_3 from c_4) hf
        refine sh_aload (i' := 0) (n := 1) i214_103 (Or.inr ⟨rfl, by decide⟩) rfl ?_
        obtain ⟨a_5, ea_5, hf⟩ := x_bind hf
        refine sh_getR i214_104 f214_74 ea_5 ?_
        refine sh_aload (i' := 0) (n := 1) i214_107 (Or.inr ⟨rfl, by decide⟩) rfl ?_
        obtain ⟨a_6, ea_6, hf⟩ := x_bind hf
        refine sh_getR i214_108 f214_131 ea_6 ?_
        refine ev_do i214_111 rfl ?_
        obtain ⟨v_7, ev_7, hf⟩ := x_bind hf
        refine sh_aldI (tg := 13) i214_113 (Or.inl ⟨rfl, rfl⟩) ev_7 ?_
        obtain ⟨v_8, ev_8, hf⟩ := x_bind hf
        refine sh_aldI (tg := 14) i214_114 (Or.inr (Or.inr ⟨rfl, rfl⟩)) ev_8 ?_
        refine ev_if (t := 122) i214_115 rfl (fun c_9 => ?_) (fun c_9 => ?_)
        · replace hf := x_neg (show ¬ v_8 = 0 from c_9) hf
          exact j214_122_ok hd ih hf
        · replace hf := x_pos (show v_8 = 0 from Decidable.byContradiction (fun h9 => c_9 h9)) hf
          refine sh_aload (i' := 0) (n := 1) i214_118 (Or.inr ⟨rfl, by decide⟩) rfl ?_
          obtain ⟨_, eu_11, hf⟩ := x_bind hf
          obtain ⟨h_10, eh_10, hf⟩ := x_bind hf
          refine sh_inv (as := []) (z := (none, h_10)) i214_119 v214_421 (Or.inl ⟨by decide, rfl⟩) m199 rfl (Nat.le_of_ble_eq_true rfl) eu_11 (fn199_call (by omega) eh_10) ?_
          exact j214_122_ok hd ih hf
def j214_28  (o0 : Option Nat) (x1 : Int32) (x2 : Int32) (x3 : Int32) (h : xH) : Option (Int32 × xH) := some ((-1), h)
theorem j214_28_ok {xs : List Int32} {d : Nat} (hd : 8 ≤ d) {u4 : Value} {u5 : Value} {o0 : Option Nat} {x1 : Int32} {x2 : Int32} {x3 : Int32} {h : xH} {r : (Int32 × xH)} (hu4 : u4.category = 1) (hu5 : u5.category = 1) (hf : j214_28 o0 x1 x2 x3 h = some r) : xEv (xTa xs) d 214 (28, [xrv o0, .int x1, .int x2, .int x3, u4, u5], [], h) (some (.int r.1), r.2) := by
  unfold j214_28 at hf
  refine ev_do i214_28 rfl ?_
  obtain rfl := Option.some.inj hf
  exact sh_iret i214_29 m214 rfl rfl
def fn214 (o0 : Option Nat) (x1 : Int32) (x2 : Int32) (x3 : Int32) (h : xH) : Option (Int32 × xH) := (xcv h o0 11).bind fun _ => (fn148 o0 x1 h).bind fun r_1 => (if r_1.1 = 0 then j214_28 o0 x1 x2 x3 r_1.2 else (fn141 x2 12 60 r_1.2).bind fun r_3 => (if r_3.1 = 0 then j214_28 o0 x1 x2 x3 r_3.2 else (fn141 x3 0 1 r_3.2).bind fun r_5 => (if r_5.1 = 0 then j214_28 o0 x1 x2 x3 r_5.2 else (xpF r_5.2 o0 11 45 .int (.int 0)).bind fun h_7 => (xpF h_7 o0 11 47 .int (.int 0)).bind fun h_8 => (xpF h_8 o0 11 48 .int (.int 0)).bind fun h_9 => (xpF h_9 o0 11 49 .int (.int 0)).bind fun h_10 => (xpF h_10 o0 11 51 .int (.int 0)).bind fun h_11 => (xcv h_11 o0 11).bind fun _ => (fn197 o0 h_11).bind fun h_12 => (xcv h_12 o0 11).bind fun _ => (fn200 o0 x1 h_12).bind fun h_13 => (xcv h_13 o0 11).bind fun _ => (fn198 o0 h_13).bind fun h_14 => (xcv h_14 o0 11).bind fun _ => (fn160 o0 x1 h_14).bind fun r_15 => (xcv r_15.2 o0 11).bind fun _ => (fn212 o0 r_15.1 r_15.2).bind fun h_16 => l214_84 xFuel o0 x1 x2 x3 r_15.1 0 h_16)))
theorem fn214_call {xs : List Int32} {d : Nat} (hd : 9 ≤ d) {o0 : Option Nat} {x1 : Int32} {x2 : Int32} {x3 : Int32} {h : xH} {r : (Int32 × xH)} (hf : fn214 o0 x1 x2 x3 h = some r) : xCall (xTa xs) d 214 [xrv o0, .int x1, .int x2, .int x3] h (some (.int r.1), r.2) := by
  obtain ⟨d, rfl⟩ : ∃ d2, d = d2 + 1 := ⟨d - 1, by omega⟩
  replace hd : 8 ≤ d := by omega
  refine call_of2 (fl := [xrv o0, .int x1, .int x2, .int x3]) (Ls := [xrv o0, .int x1, .int x2, .int x3, .float 0, .float 0]) m214 (by simp [xfl, xrv_cat, xc_i, xc_j, xc_a, xc_f]) (Nat.le_of_ble_eq_true rfl) rfl ?_
  unfold fn214 at hf
  refine sh_aload (i' := 0) (n := 1) i214_0 (Or.inr ⟨rfl, by decide⟩) rfl ?_
  refine ev_do i214_1 rfl ?_
  obtain ⟨_, eu_22, hf⟩ := x_bind hf
  obtain ⟨r_1, er_1, hf⟩ := x_bind hf
  refine sh_inv (as := [.int x1]) (z := (some (.int r_1.1), r_1.2)) i214_2 v214_161 (Or.inl ⟨by decide, rfl⟩) m148 rfl (Nat.le_of_ble_eq_true rfl) eu_22 (fn148_call (by omega) er_1) ?_
  refine ev_if (t := 28) i214_5 rfl (fun c_2 => ?_) (fun c_2 => ?_)
  · replace hf := x_pos (show r_1.1 = 0 from c_2) hf
    exact j214_28_ok hd rfl rfl hf
  · replace hf := x_neg (show ¬ r_1.1 = 0 from c_2) hf
    refine ev_do i214_8 rfl ?_
    refine ev_do i214_9 rfl ?_
    refine ev_do i214_11 rfl ?_
    obtain ⟨r_3, er_3, hf⟩ := x_bind hf
    refine ev_sta (as := [.int 60, .int 12, .int x2]) (z := (some (.int r_3.1), r_3.2)) i214_13 v214_154 (Or.inl rfl) m141 rfl (Nat.le_of_ble_eq_true rfl) (fn141_call (by omega) er_3) ?_
    refine ev_if (t := 28) i214_16 rfl (fun c_4 => ?_) (fun c_4 => ?_)
    · replace hf := x_pos (show r_3.1 = 0 from c_4) hf
      exact j214_28_ok hd rfl rfl hf
    · replace hf := x_neg (show ¬ r_3.1 = 0 from c_4) hf
      refine ev_do i214_19 rfl ?_
      refine ev_do i214_20 rfl ?_
      refine ev_do i214_21 rfl ?_
      obtain ⟨r_5, er_5, hf⟩ := x_bind hf
      refine ev_sta (as := [.int 1, .int 0, .int x3]) (z := (some (.int r_5.1), r_5.2)) i214_22 v214_154 (Or.inl rfl) m141 rfl (Nat.le_of_ble_eq_true rfl) (fn141_call (by omega) er_5) ?_
      refine ev_if (t := 30) i214_25 rfl (fun c_6 => ?_) (fun c_6 => ?_)
      · replace hf := x_neg (show ¬ r_5.1 = 0 from c_6) hf
        refine sh_aload (i' := 0) (n := 1) i214_30 (Or.inr ⟨rfl, by decide⟩) rfl ?_
        refine ev_do i214_31 rfl ?_
        obtain ⟨h_7, eh_7, hf⟩ := x_bind hf
        refine sh_put i214_32 f214_356 (by decide) rfl eh_7 ?_
        refine sh_aload (i' := 0) (n := 1) i214_35 (Or.inr ⟨rfl, by decide⟩) rfl ?_
        refine ev_do i214_36 rfl ?_
        obtain ⟨h_8, eh_8, hf⟩ := x_bind hf
        refine sh_put i214_37 f214_362 (by decide) rfl eh_8 ?_
        refine sh_aload (i' := 0) (n := 1) i214_40 (Or.inr ⟨rfl, by decide⟩) rfl ?_
        refine ev_do i214_41 rfl ?_
        obtain ⟨h_9, eh_9, hf⟩ := x_bind hf
        refine sh_put i214_42 f214_415 (by decide) rfl eh_9 ?_
        refine sh_aload (i' := 0) (n := 1) i214_45 (Or.inr ⟨rfl, by decide⟩) rfl ?_
        refine ev_do i214_46 rfl ?_
        obtain ⟨h_10, eh_10, hf⟩ := x_bind hf
        refine sh_put i214_47 f214_365 (by decide) rfl eh_10 ?_
        refine sh_aload (i' := 0) (n := 1) i214_50 (Or.inr ⟨rfl, by decide⟩) rfl ?_
        refine ev_do i214_51 rfl ?_
        obtain ⟨h_11, eh_11, hf⟩ := x_bind hf
        refine sh_put i214_52 f214_386 (by decide) rfl eh_11 ?_
        refine sh_aload (i' := 0) (n := 1) i214_55 (Or.inr ⟨rfl, by decide⟩) rfl ?_
        obtain ⟨_, eu_21, hf⟩ := x_bind hf
        obtain ⟨h_12, eh_12, hf⟩ := x_bind hf
        refine sh_inv (as := []) (z := (none, h_12)) i214_56 v214_368 (Or.inl ⟨by decide, rfl⟩) m197 rfl (Nat.le_of_ble_eq_true rfl) eu_21 (fn197_call (by omega) eh_12) ?_
        refine sh_aload (i' := 0) (n := 1) i214_59 (Or.inr ⟨rfl, by decide⟩) rfl ?_
        refine ev_do i214_60 rfl ?_
        obtain ⟨_, eu_20, hf⟩ := x_bind hf
        obtain ⟨h_13, eh_13, hf⟩ := x_bind hf
        refine sh_inv (as := [.int x1]) (z := (none, h_13)) i214_61 v214_427 (Or.inl ⟨by decide, rfl⟩) m200 rfl (Nat.le_of_ble_eq_true rfl) eu_20 (fn200_call (by omega) eh_13) ?_
        refine sh_aload (i' := 0) (n := 1) i214_64 (Or.inr ⟨rfl, by decide⟩) rfl ?_
        obtain ⟨_, eu_19, hf⟩ := x_bind hf
        obtain ⟨h_14, eh_14, hf⟩ := x_bind hf
        refine sh_inv (as := []) (z := (none, h_14)) i214_65 v214_371 (Or.inl ⟨by decide, rfl⟩) m198 rfl (Nat.le_of_ble_eq_true rfl) eu_19 (fn198_call (by omega) eh_14) ?_
        refine sh_aload (i' := 0) (n := 1) i214_68 (Or.inr ⟨rfl, by decide⟩) rfl ?_
        refine ev_do i214_69 rfl ?_
        obtain ⟨_, eu_18, hf⟩ := x_bind hf
        obtain ⟨r_15, er_15, hf⟩ := x_bind hf
        refine sh_inv (as := [.int x1]) (z := (some (.int r_15.1), r_15.2)) i214_70 v214_353 (Or.inl ⟨by decide, rfl⟩) m160 rfl (Nat.le_of_ble_eq_true rfl) eu_18 (fn160_call (by omega) er_15) ?_
        refine sh_istore (i' := 4) (n := 2) i214_73 (Or.inl rfl) (xokst_of (Nat.le_of_ble_eq_true rfl) rfl) ?_
        refine sh_aload (i' := 0) (n := 1) i214_75 (Or.inr ⟨rfl, by decide⟩) rfl ?_
        refine ev_do i214_76 rfl ?_
        obtain ⟨_, eu_17, hf⟩ := x_bind hf
        obtain ⟨h_16, eh_16, hf⟩ := x_bind hf
        refine sh_inv (as := [.int r_15.1]) (z := (none, h_16)) i214_78 v214_430 (Or.inl ⟨by decide, rfl⟩) m212 rfl (Nat.le_of_ble_eq_true rfl) eu_17 (fn212_call (by omega) eh_16) ?_
        refine ev_do i214_81 rfl ?_
        refine sh_istore (i' := 5) (n := 2) i214_82 (Or.inl rfl) (xokst_of (Nat.le_of_ble_eq_true rfl) rfl) ?_
        exact l214_84_ok hd xFuel hf
      · replace hf := x_pos (show r_5.1 = 0 from Decidable.byContradiction (fun h9 => c_6 h9)) hf
        exact j214_28_ok hd rfl rfl hf
end
