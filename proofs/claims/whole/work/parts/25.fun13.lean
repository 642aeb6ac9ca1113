section
def j172_34  (o0 : Option Nat) (x1 : Int32) (s0 : Int32) (h : xH) : Option (Int32 × xH) := (if s0 &&& 1 = s0 then some (s0, h) else none)
theorem j172_34_ok {xs : List Int32} {d : Nat} (hd : 6 ≤ d) {o0 : Option Nat} {x1 : Int32} {s0 : Int32} {h : xH} {r : (Int32 × xH)} (hf : j172_34 o0 x1 s0 h = some r) : xEv (xTa xs) d 172 (34, [xrv o0, .int x1], [.int s0], h) (some (.int r.1), r.2) := by
  unfold j172_34 at hf
  by_cases c_1 : s0 &&& 1 = s0
  · replace hf := x_pos c_1 hf
    obtain rfl := Option.some.inj hf
    exact sh_iret i172_34 m172 rfl (congrArg Value.int c_1)
  · replace hf := x_neg c_1 hf
    cases hf
def j172_33  (o0 : Option Nat) (x1 : Int32) (h : xH) : Option (Int32 × xH) := j172_34 o0 x1 0 h
theorem j172_33_ok {xs : List Int32} {d : Nat} (hd : 6 ≤ d) {o0 : Option Nat} {x1 : Int32} {h : xH} {r : (Int32 × xH)} (hf : j172_33 o0 x1 h = some r) : xEv (xTa xs) d 172 (33, [xrv o0, .int x1], [], h) (some (.int r.1), r.2) := by
  unfold j172_33 at hf
  refine ev_do i172_33 rfl ?_
  exact j172_34_ok hd hf
def j172_29  (o0 : Option Nat) (x1 : Int32) (h : xH) : Option (Int32 × xH) := j172_34 o0 x1 1 h
theorem j172_29_ok {xs : List Int32} {d : Nat} (hd : 6 ≤ d) {o0 : Option Nat} {x1 : Int32} {h : xH} {r : (Int32 × xH)} (hf : j172_29 o0 x1 h = some r) : xEv (xTa xs) d 172 (29, [xrv o0, .int x1], [], h) (some (.int r.1), r.2) := by
  unfold j172_29 at hf
  refine ev_do i172_29 rfl ?_
  refine sh_goto (t := 34) i172_30 rfl ?_
  exact j172_34_ok hd hf
def fn172 (o0 : Option Nat) (x1 : Int32) (h : xH) : Option (Int32 × xH) := (xcv h o0 11).bind fun _ => (fn167 o0 x1 h).bind fun r_1 => (if r_1.1 = 125 then j172_29 o0 x1 r_1.2 else (xcv r_1.2 o0 11).bind fun _ => (fn167 o0 x1 r_1.2).bind fun r_3 => (if r_3.1 = 123 then (xcv r_3.2 o0 11).bind fun _ => (fn171 o0 x1 r_3.2).bind fun r_5 => (if r_5.1 = (-1) then j172_29 o0 x1 r_5.2 else j172_33 o0 x1 r_5.2) else j172_33 o0 x1 r_3.2))
theorem fn172_call {xs : List Int32} {d : Nat} (hd : 7 ≤ d) {o0 : Option Nat} {x1 : Int32} {h : xH} {r : (Int32 × xH)} (hf : fn172 o0 x1 h = some r) : xCall (xTa xs) d 172 [xrv o0, .int x1] h (some (.int r.1), r.2) := by
  obtain ⟨d, rfl⟩ : ∃ d2, d = d2 + 1 := ⟨d - 1, by omega⟩
  replace hd : 6 ≤ d := by omega
  refine call_of2 (fl := [xrv o0, .int x1]) (Ls := [xrv o0, .int x1]) m172 (by simp [xfl, xrv_cat, xc_i, xc_j, xc_a, xc_f]) (Nat.le_of_ble_eq_true rfl) rfl ?_
  unfold fn172 at hf
  refine sh_aload (i' := 0) (n := 1) i172_0 (Or.inr ⟨rfl, by decide⟩) rfl ?_
  refine ev_do i172_1 rfl ?_
  obtain ⟨_, eu_9, hf⟩ := x_bind hf
  obtain ⟨r_1, er_1, hf⟩ := x_bind hf
  refine sh_inv (as := [.int x1]) (z := (some (.int r_1.1), r_1.2)) i172_2 v172_227 (Or.inl ⟨by decide, rfl⟩) m167 rfl (Nat.le_of_ble_eq_true rfl) eu_9 (fn167_call (by omega) er_1) ?_
  refine ev_do i172_5 rfl ?_
  refine ev_icmp (t := 29) i172_7 rfl (fun c_2 => ?_) (fun c_2 => ?_)
  · replace hf := x_pos (show r_1.1 = 125 from c_2) hf
    exact j172_29_ok hd hf
  · replace hf := x_neg (show ¬ r_1.1 = 125 from c_2) hf
    refine sh_aload (i' := 0) (n := 1) i172_10 (Or.inr ⟨rfl, by decide⟩) rfl ?_
    refine ev_do i172_11 rfl ?_
    obtain ⟨_, eu_8, hf⟩ := x_bind hf
    obtain ⟨r_3, er_3, hf⟩ := x_bind hf
    refine sh_inv (as := [.int x1]) (z := (some (.int r_3.1), r_3.2)) i172_12 v172_227 (Or.inl ⟨by decide, rfl⟩) m167 rfl (Nat.le_of_ble_eq_true rfl) eu_8 (fn167_call (by omega) er_3) ?_
    refine ev_do i172_15 rfl ?_
    refine ev_icmp (t := 33) i172_17 rfl (fun c_4 => ?_) (fun c_4 => ?_)
    · replace hf := x_neg (show ¬ r_3.1 = 123 from c_4) hf
      exact j172_33_ok hd hf
    · replace hf := x_pos (show r_3.1 = 123 from Decidable.byContradiction (fun h9 => c_4 h9)) hf
      refine sh_aload (i' := 0) (n := 1) i172_20 (Or.inr ⟨rfl, by decide⟩) rfl ?_
      refine ev_do i172_21 rfl ?_
      obtain ⟨_, eu_7, hf⟩ := x_bind hf
      obtain ⟨r_5, er_5, hf⟩ := x_bind hf
      refine sh_inv (as := [.int x1]) (z := (some (.int r_5.1), r_5.2)) i172_22 v172_258 (Or.inl ⟨by decide, rfl⟩) m171 rfl (Nat.le_of_ble_eq_true rfl) eu_7 (fn171_call (by omega) er_5) ?_
      refine ev_do i172_25 rfl ?_
      refine ev_icmp (t := 33) i172_26 rfl (fun c_6 => ?_) (fun c_6 => ?_)
      · replace hf := x_neg (show ¬ r_5.1 = (-1) from c_6) hf
        exact j172_33_ok hd hf
      · replace hf := x_pos (show r_5.1 = (-1) from Decidable.byContradiction (fun h9 => c_6 h9)) hf
        exact j172_29_ok hd hf
end
section
def fn173 (o0 : Option Nat) (x1 : Int32) (x2 : Int32) (x3 : Int32) (h : xH) : Option xH := (xgR h o0 11 14).bind fun a_1 => (xaI h 13 a_1 40).bind fun v_2 => (xgR h o0 11 14).bind fun a_3 => (xaI h 13 a_3 40).bind fun v_4 => (xaS h 13 (fun x => x) a_3 40 (v_4 + 1)).bind fun h_5 => (xgR h_5 o0 11 16).bind fun a_6 => (xaS h_5 13 (fun x => x) a_6 (960 + v_2) x1).bind fun h_7 => (xgR h_7 o0 11 17).bind fun a_8 => (xaS h_7 13 (fun x => x) a_8 (960 + v_2) x2).bind fun h_9 => (xgR h_9 o0 11 18).bind fun a_10 => (xgR h_9 o0 11 15).bind fun a_11 => (xaI h_9 13 a_11 40).bind fun v_12 => (xaS h_9 13 (fun x => x) a_10 (960 + v_2) v_12).bind fun h_13 => (xgR h_13 o0 11 19).bind fun a_14 => (xaS h_13 13 (fun x => x) a_14 (960 + v_2) 0).bind fun h_15 => (xgR h_15 o0 11 20).bind fun a_16 => (xaS h_15 13 (fun x => x) a_16 (960 + v_2) x3).bind fun h_17 => (xgR h_17 o0 11 21).bind fun a_18 => (xaS h_17 13 (fun x => x) a_18 (960 + v_2) 0).bind fun h_19 => (xgR h_19 o0 11 22).bind fun a_20 => (xaS h_19 13 (fun x => x) a_20 (960 + v_2) 0).bind fun h_21 => (xgR h_21 o0 11 23).bind fun a_22 => (xaS h_21 14 (vp_nar .boolean) a_22 (960 + v_2) 0).bind fun h_23 => (xpF h_23 o0 11 38 .int (.int (-1))).bind fun h_24 => some h_24
theorem fn173_call {xs : List Int32} {d : Nat} (hd : 2 ≤ d) {o0 : Option Nat} {x1 : Int32} {x2 : Int32} {x3 : Int32} {h : xH} {r : xH} (hf : fn173 o0 x1 x2 x3 h = some r) : xCall (xTa xs) d 173 [xrv o0, .int x1, .int x2, .int x3] h (none, r) := by
  obtain ⟨d, rfl⟩ : ∃ d2, d = d2 + 1 := ⟨d - 1, by omega⟩
  replace hd : 1 ≤ d := by omega
  refine call_of2 (fl := [xrv o0, .int x1, .int x2, .int x3]) (Ls := [xrv o0, .int x1, .int x2, .int x3, .float 0]) m173 (by simp [xfl, xrv_cat, xc_i, xc_j, xc_a, xc_f]) (Nat.le_of_ble_eq_true rfl) rfl ?_
  unfold fn173 at hf
  refine ev_do i173_0 rfl ?_
  refine sh_aload (i' := 0) (n := 1) i173_3 (Or.inr ⟨rfl, by decide⟩) rfl ?_
  obtain ⟨a_1, ea_1, hf⟩ := x_bind hf
  refine sh_getR i173_4 f173_47 ea_1 ?_
  refine ev_do i173_7 rfl ?_
  obtain ⟨v_2, ev_2, hf⟩ := x_bind hf
  refine sh_aldI (tg := 13) i173_9 (Or.inl ⟨rfl, rfl⟩) ev_2 ?_
  refine ev_do i173_10 rfl ?_
  refine sh_istore (i' := 4) (n := 2) i173_11 (Or.inl rfl) (xokst_of (Nat.le_of_ble_eq_true rfl) rfl) ?_
  refine sh_aload (i' := 0) (n := 1) i173_13 (Or.inr ⟨rfl, by decide⟩) rfl ?_
  obtain ⟨a_3, ea_3, hf⟩ := x_bind hf
  refine sh_getR i173_14 f173_47 ea_3 ?_
  refine ev_do i173_17 rfl ?_
  refine sh_dup2 i173_19 rfl (xrv_cat (a_3)) ?_
  obtain ⟨v_4, ev_4, hf⟩ := x_bind hf
  refine sh_aldI (tg := 13) i173_20 (Or.inl ⟨rfl, rfl⟩) ev_4 ?_
  refine ev_do i173_21 rfl ?_
  refine ev_do i173_22 rfl ?_
  obtain ⟨h_5, eh_5, hf⟩ := x_bind hf
  refine sh_ast (tg := 13) i173_23 (Or.inl ⟨rfl, rfl, rfl⟩) eh_5 ?_
  refine sh_aload (i' := 0) (n := 1) i173_24 (Or.inr ⟨rfl, by decide⟩) rfl ?_
  obtain ⟨a_6, ea_6, hf⟩ := x_bind hf
  refine sh_getR i173_25 f173_53 ea_6 ?_
  refine ev_do i173_28 rfl ?_
  refine ev_do i173_30 rfl ?_
  obtain ⟨h_7, eh_7, hf⟩ := x_bind hf
  refine sh_ast (tg := 13) i173_31 (Or.inl ⟨rfl, rfl, rfl⟩) eh_7 ?_
  refine sh_aload (i' := 0) (n := 1) i173_32 (Or.inr ⟨rfl, by decide⟩) rfl ?_
  obtain ⟨a_8, ea_8, hf⟩ := x_bind hf
  refine sh_getR i173_33 f173_56 ea_8 ?_
  refine ev_do i173_36 rfl ?_
  refine ev_do i173_38 rfl ?_
  obtain ⟨h_9, eh_9, hf⟩ := x_bind hf
  refine sh_ast (tg := 13) i173_39 (Or.inl ⟨rfl, rfl, rfl⟩) eh_9 ?_
  refine sh_aload (i' := 0) (n := 1) i173_40 (Or.inr ⟨rfl, by decide⟩) rfl ?_
  obtain ⟨a_10, ea_10, hf⟩ := x_bind hf
  refine sh_getR i173_41 f173_59 ea_10 ?_
  refine ev_do i173_44 rfl ?_
  refine sh_aload (i' := 0) (n := 1) i173_46 (Or.inr ⟨rfl, by decide⟩) rfl ?_
  obtain ⟨a_11, ea_11, hf⟩ := x_bind hf
  refine sh_getR i173_47 f173_50 ea_11 ?_
  refine ev_do i173_50 rfl ?_
  obtain ⟨v_12, ev_12, hf⟩ := x_bind hf
  refine sh_aldI (tg := 13) i173_52 (Or.inl ⟨rfl, rfl⟩) ev_12 ?_
  obtain ⟨h_13, eh_13, hf⟩ := x_bind hf
  refine sh_ast (tg := 13) i173_53 (Or.inl ⟨rfl, rfl, rfl⟩) eh_13 ?_
  refine sh_aload (i' := 0) (n := 1) i173_54 (Or.inr ⟨rfl, by decide⟩) rfl ?_
  obtain ⟨a_14, ea_14, hf⟩ := x_bind hf
  refine sh_getR i173_55 f173_62 ea_14 ?_
  refine ev_do i173_58 rfl ?_
  refine ev_do i173_60 rfl ?_
  obtain ⟨h_15, eh_15, hf⟩ := x_bind hf
  refine sh_ast (tg := 13) i173_61 (Or.inl ⟨rfl, rfl, rfl⟩) eh_15 ?_
  refine sh_aload (i' := 0) (n := 1) i173_62 (Or.inr ⟨rfl, by decide⟩) rfl ?_
  obtain ⟨a_16, ea_16, hf⟩ := x_bind hf
  refine sh_getR i173_63 f173_65 ea_16 ?_
  refine ev_do i173_66 rfl ?_
  refine ev_do i173_68 rfl ?_
  obtain ⟨h_17, eh_17, hf⟩ := x_bind hf
  refine sh_ast (tg := 13) i173_69 (Or.inl ⟨rfl, rfl, rfl⟩) eh_17 ?_
  refine sh_aload (i' := 0) (n := 1) i173_70 (Or.inr ⟨rfl, by decide⟩) rfl ?_
  obtain ⟨a_18, ea_18, hf⟩ := x_bind hf
  refine sh_getR i173_71 f173_68 ea_18 ?_
  refine ev_do i173_74 rfl ?_
  refine ev_do i173_76 rfl ?_
  obtain ⟨h_19, eh_19, hf⟩ := x_bind hf
  refine sh_ast (tg := 13) i173_77 (Or.inl ⟨rfl, rfl, rfl⟩) eh_19 ?_
  refine sh_aload (i' := 0) (n := 1) i173_78 (Or.inr ⟨rfl, by decide⟩) rfl ?_
  obtain ⟨a_20, ea_20, hf⟩ := x_bind hf
  refine sh_getR i173_79 f173_71 ea_20 ?_
  refine ev_do i173_82 rfl ?_
  refine ev_do i173_84 rfl ?_
  obtain ⟨h_21, eh_21, hf⟩ := x_bind hf
  refine sh_ast (tg := 13) i173_85 (Or.inl ⟨rfl, rfl, rfl⟩) eh_21 ?_
  refine sh_aload (i' := 0) (n := 1) i173_86 (Or.inr ⟨rfl, by decide⟩) rfl ?_
  obtain ⟨a_22, ea_22, hf⟩ := x_bind hf
  refine sh_getR i173_87 f173_74 ea_22 ?_
  refine ev_do i173_90 rfl ?_
  refine ev_do i173_92 rfl ?_
  obtain ⟨h_23, eh_23, hf⟩ := x_bind hf
  refine sh_ast (tg := 14) i173_93 (Or.inr (Or.inr ⟨rfl, rfl, rfl⟩)) eh_23 ?_
  refine sh_aload (i' := 0) (n := 1) i173_94 (Or.inr ⟨rfl, by decide⟩) rfl ?_
  refine ev_do i173_95 rfl ?_
  obtain ⟨h_24, eh_24, hf⟩ := x_bind hf
  refine sh_put i173_96 f173_261 (by decide) rfl eh_24 ?_
  obtain rfl := Option.some.inj hf
  exact sh_vret i173_99 m173 rfl
end
section
def fn174 (o0 : Option Nat) (h : xH) : Option (Int32 × xH) := (xgR h o0 11 14).bind fun a_1 => (xaI h 13 a_1 40).bind fun v_2 => some ((960 + v_2) - 1, h)
theorem fn174_call {xs : List Int32} {d : Nat} (hd : 2 ≤ d) {o0 : Option Nat} {h : xH} {r : (Int32 × xH)} (hf : fn174 o0 h = some r) : xCall (xTa xs) d 174 [xrv o0] h (some (.int r.1), r.2) := by
  obtain ⟨d, rfl⟩ : ∃ d2, d = d2 + 1 := ⟨d - 1, by omega⟩
  replace hd : 1 ≤ d := by omega
  refine call_of2 (fl := [xrv o0]) (Ls := [xrv o0]) m174 (by simp [xfl, xrv_cat, xc_i, xc_j, xc_a, xc_f]) (Nat.le_of_ble_eq_true rfl) rfl ?_
  unfold fn174 at hf
  refine ev_do i174_0 rfl ?_
  refine sh_aload (i' := 0) (n := 1) i174_3 (Or.inr ⟨rfl, by decide⟩) rfl ?_
  obtain ⟨a_1, ea_1, hf⟩ := x_bind hf
  refine sh_getR i174_4 f174_47 ea_1 ?_
  refine ev_do i174_7 rfl ?_
  obtain ⟨v_2, ev_2, hf⟩ := x_bind hf
  refine sh_aldI (tg := 13) i174_9 (Or.inl ⟨rfl, rfl⟩) ev_2 ?_
  refine ev_do i174_10 rfl ?_
  refine ev_do i174_11 rfl ?_
  refine ev_do i174_12 rfl ?_
  obtain rfl := Option.some.inj hf
  exact sh_iret i174_13 m174 rfl rfl
end
section
def j176_208  (o0 : Option Nat) (x1 : Int32) (x2 : Int32) (h : xH) : Option (Int32 × xH) := (xgR h o0 11 26).bind fun a_1 => (xgI h o0 11 40).bind fun v_2 => (xaS h 13 (fun x => x) a_1 x2 v_2).bind fun h_3 => (xgR h_3 o0 11 27).bind fun a_4 => (xgI h_3 o0 11 41).bind fun v_5 => (xaS h_3 13 (fun x => x) a_4 x2 v_5).bind fun h_6 => (xgI h_6 o0 11 38).bind fun v_7 => some (v_7, h_6)
theorem j176_208_ok {xs : List Int32} {d : Nat} (hd : 6 ≤ d) {u3 : Value} {o0 : Option Nat} {x1 : Int32} {x2 : Int32} {h : xH} {r : (Int32 × xH)} (hu3 : u3.category = 1) (hf : j176_208 o0 x1 x2 h = some r) : xEv (xTa xs) d 176 (208, [xrv o0, .int x1, .int x2, u3], [], h) (some (.int r.1), r.2) := by
  unfold j176_208 at hf
  refine sh_aload (i' := 0) (n := 1) i176_208 (Or.inr ⟨rfl, by decide⟩) rfl ?_
  obtain ⟨a_1, ea_1, hf⟩ := x_bind hf
  refine sh_getR i176_209 f176_83 ea_1 ?_
  refine ev_do i176_212 rfl ?_
  refine sh_aload (i' := 0) (n := 1) i176_213 (Or.inr ⟨rfl, by decide⟩) rfl ?_
  obtain ⟨v_2, ev_2, hf⟩ := x_bind hf
  refine sh_getI i176_214 f176_238 ev_2 ?_
  obtain ⟨h_3, eh_3, hf⟩ := x_bind hf
  refine sh_ast (tg := 13) i176_217 (Or.inl ⟨rfl, rfl, rfl⟩) eh_3 ?_
  refine sh_aload (i' := 0) (n := 1) i176_218 (Or.inr ⟨rfl, by decide⟩) rfl ?_
  obtain ⟨a_4, ea_4, hf⟩ := x_bind hf
  refine sh_getR i176_219 f176_86 ea_4 ?_
  refine ev_do i176_222 rfl ?_
  refine sh_aload (i' := 0) (n := 1) i176_223 (Or.inr ⟨rfl, by decide⟩) rfl ?_
  obtain ⟨v_5, ev_5, hf⟩ := x_bind hf
  refine sh_getI i176_224 f176_241 ev_5 ?_
  obtain ⟨h_6, eh_6, hf⟩ := x_bind hf
  refine sh_ast (tg := 13) i176_227 (Or.inl ⟨rfl, rfl, rfl⟩) eh_6 ?_
  refine sh_aload (i' := 0) (n := 1) i176_228 (Or.inr ⟨rfl, by decide⟩) rfl ?_
  obtain ⟨v_7, ev_7, hf⟩ := x_bind hf
  refine sh_getI i176_229 f176_261 ev_7 ?_
  obtain rfl := Option.some.inj hf
  exact sh_iret i176_232 m176 rfl rfl
def j176_184  (o0 : Option Nat) (x1 : Int32) (x2 : Int32) (x3 : Int32) (h : xH) : Option (Int32 × xH) := (xgR h o0 11 24).bind fun a_1 => (xaS h 13 (fun x => x) a_1 x2 0).bind fun h_2 => (xpF h_2 o0 11 40 .int (.int x1)).bind fun h_3 => (xpF h_3 o0 11 41 .int (.int (x3 - x1))).bind fun h_4 => (xpF h_4 o0 11 38 .int (.int x3)).bind fun h_5 => j176_208 o0 x1 x2 h_5
theorem j176_184_ok {xs : List Int32} {d : Nat} (hd : 6 ≤ d) {o0 : Option Nat} {x1 : Int32} {x2 : Int32} {x3 : Int32} {h : xH} {r : (Int32 × xH)} (hf : j176_184 o0 x1 x2 x3 h = some r) : xEv (xTa xs) d 176 (184, [xrv o0, .int x1, .int x2, .int x3], [], h) (some (.int r.1), r.2) := by
  unfold j176_184 at hf
  refine sh_aload (i' := 0) (n := 1) i176_184 (Or.inr ⟨rfl, by decide⟩) rfl ?_
  obtain ⟨a_1, ea_1, hf⟩ := x_bind hf
  refine sh_getR i176_185 f176_77 ea_1 ?_
  refine ev_do i176_188 rfl ?_
  refine ev_do i176_189 rfl ?_
  obtain ⟨h_2, eh_2, hf⟩ := x_bind hf
  refine sh_ast (tg := 13) i176_190 (Or.inl ⟨rfl, rfl, rfl⟩) eh_2 ?_
  refine sh_aload (i' := 0) (n := 1) i176_191 (Or.inr ⟨rfl, by decide⟩) rfl ?_
  refine ev_do i176_192 rfl ?_
  obtain ⟨h_3, eh_3, hf⟩ := x_bind hf
  refine sh_put i176_193 f176_238 (by decide) rfl eh_3 ?_
  refine sh_aload (i' := 0) (n := 1) i176_196 (Or.inr ⟨rfl, by decide⟩) rfl ?_
  refine ev_do i176_197 rfl ?_
  refine ev_do i176_198 rfl ?_
  refine ev_do i176_199 rfl ?_
  obtain ⟨h_4, eh_4, hf⟩ := x_bind hf
  refine sh_put i176_200 f176_241 (by decide) rfl eh_4 ?_
  refine sh_aload (i' := 0) (n := 1) i176_203 (Or.inr ⟨rfl, by decide⟩) rfl ?_
  refine ev_do i176_204 rfl ?_
  obtain ⟨h_5, eh_5, hf⟩ := x_bind hf
  refine sh_put i176_205 f176_261 (by decide) rfl eh_5 ?_
  exact j176_208_ok hd rfl hf
def l176_140  : Nat → Option Nat → Int32 → Int32 → Int32 → xH → Option (Int32 × xH)
  | 0 => fun _ _ _ _ _ => none
  | n + 1 => fun o0 x1 x2 x3 h => (xgI h o0 11 37).bind fun v_1 => (if v_1 ≤ x3 then j176_184 o0 x1 x2 x3 h else (xcv h o0 11).bind fun _ => (fn167 o0 x3 h).bind fun r_3 => (if r_3.1 = 32 then j176_184 o0 x1 x2 x3 r_3.2 else (xcv r_3.2 o0 11).bind fun _ => (fn167 o0 x3 r_3.2).bind fun r_5 => (if r_5.1 = 123 then j176_184 o0 x1 x2 x3 r_5.2 else (xcv r_5.2 o0 11).bind fun _ => (fn167 o0 x3 r_5.2).bind fun r_7 => (if r_7.1 = 125 then j176_184 o0 x1 x2 x3 r_7.2 else l176_140 n o0 x1 x2 (x3 + 1) r_7.2))))
theorem l176_140_ok {xs : List Int32} {d : Nat} (hd : 6 ≤ d) : ∀ (n : Nat) {o0 : Option Nat} {x1 : Int32} {x2 : Int32} {x3 : Int32} {h : xH} {r : (Int32 × xH)}, l176_140 n o0 x1 x2 x3 h = some r → xEv (xTa xs) d 176 (140, [xrv o0, .int x1, .int x2, .int x3], [], h) (some (.int r.1), r.2) := by
  intro n
  induction n with
  | zero => intros; rename_i hf; cases hf
  | succ n ih =>
    intro o0 x1 x2 x3 h r hf
    replace hf : ((xgI h o0 11 37).bind fun v_1 => (if v_1 ≤ x3 then j176_184 o0 x1 x2 x3 h else (xcv h o0 11).bind fun _ => (fn167 o0 x3 h).bind fun r_3 => (if r_3.1 = 32 then j176_184 o0 x1 x2 x3 r_3.2 else (xcv r_3.2 o0 11).bind fun _ => (fn167 o0 x3 r_3.2).bind fun r_5 => (if r_5.1 = 123 then j176_184 o0 x1 x2 x3 r_5.2 else (xcv r_5.2 o0 11).bind fun _ => (fn167 o0 x3 r_5.2).bind fun r_7 => (if r_7.1 = 125 then j176_184 o0 x1 x2 x3 r_7.2 else l176_140 n o0 x1 x2 (x3 + 1) r_7.2))))) = some r := hf
    refine ev_do i176_140 rfl ?_
    refine sh_aload (i' := 0) (n := 1) i176_141 (Or.inr ⟨rfl, by decide⟩) rfl ?_
    obtain ⟨v_1, ev_1, hf⟩ := x_bind hf
    refine sh_getI i176_142 f176_224 ev_1 ?_
    refine ev_icmp (t := 184) i176_145 rfl (fun c_2 => ?_) (fun c_2 => ?_)
    · replace hf := x_pos (show v_1 ≤ x3 from c_2) hf
      exact j176_184_ok hd hf
    · replace hf := x_neg (show ¬ v_1 ≤ x3 from c_2) hf
      refine sh_aload (i' := 0) (n := 1) i176_148 (Or.inr ⟨rfl, by decide⟩) rfl ?_
      refine ev_do i176_149 rfl ?_
      obtain ⟨_, eu_11, hf⟩ := x_bind hf
      obtain ⟨r_3, er_3, hf⟩ := x_bind hf
      refine sh_inv (as := [.int x3]) (z := (some (.int r_3.1), r_3.2)) i176_150 v176_227 (Or.inl ⟨by decide, rfl⟩) m167 rfl (Nat.le_of_ble_eq_true rfl) eu_11 (fn167_call (by omega) er_3) ?_
      refine ev_do i176_153 rfl ?_
      refine ev_icmp (t := 184) i176_155 rfl (fun c_4 => ?_) (fun c_4 => ?_)
      · replace hf := x_pos (show r_3.1 = 32 from c_4) hf
        exact j176_184_ok hd hf
      · replace hf := x_neg (show ¬ r_3.1 = 32 from c_4) hf
        refine sh_aload (i' := 0) (n := 1) i176_158 (Or.inr ⟨rfl, by decide⟩) rfl ?_
        refine ev_do i176_159 rfl ?_
        obtain ⟨_, eu_10, hf⟩ := x_bind hf
        obtain ⟨r_5, er_5, hf⟩ := x_bind hf
        refine sh_inv (as := [.int x3]) (z := (some (.int r_5.1), r_5.2)) i176_160 v176_227 (Or.inl ⟨by decide, rfl⟩) m167 rfl (Nat.le_of_ble_eq_true rfl) eu_10 (fn167_call (by omega) er_5) ?_
        refine ev_do i176_163 rfl ?_
        refine ev_icmp (t := 184) i176_165 rfl (fun c_6 => ?_) (fun c_6 => ?_)
        · replace hf := x_pos (show r_5.1 = 123 from c_6) hf
          exact j176_184_ok hd hf
        · replace hf := x_neg (show ¬ r_5.1 = 123 from c_6) hf
          refine sh_aload (i' := 0) (n := 1) i176_168 (Or.inr ⟨rfl, by decide⟩) rfl ?_
          refine ev_do i176_169 rfl ?_
          obtain ⟨_, eu_9, hf⟩ := x_bind hf
          obtain ⟨r_7, er_7, hf⟩ := x_bind hf
          refine sh_inv (as := [.int x3]) (z := (some (.int r_7.1), r_7.2)) i176_170 v176_227 (Or.inl ⟨by decide, rfl⟩) m167 rfl (Nat.le_of_ble_eq_true rfl) eu_9 (fn167_call (by omega) er_7) ?_
          refine ev_do i176_173 rfl ?_
          refine ev_icmp (t := 184) i176_175 rfl (fun c_8 => ?_) (fun c_8 => ?_)
          · replace hf := x_pos (show r_7.1 = 125 from c_8) hf
            exact j176_184_ok hd hf
          · replace hf := x_neg (show ¬ r_7.1 = 125 from c_8) hf
            refine sh_inc (i' := 3) i176_178 rfl (xokst_of (Nat.le_of_ble_eq_true rfl) rfl) rfl ?_
            refine sh_goto (t := 140) i176_181 rfl ?_
            exact ih hf
def j176_61  (o0 : Option Nat) (x1 : Int32) (x2 : Int32) (s0 : Option Nat) (s1 : Int32) (s2 : Int32) (h : xH) : Option (Int32 × xH) := (xaS h 14 (vp_nar .boolean) s0 s1 s2).bind fun h_1 => (xgR h_1 o0 11 29).bind fun a_2 => (xaS h_1 13 (fun x => x) a_2 x2 0).bind fun h_3 => (xgR h_3 o0 11 30).bind fun a_4 => (xaS h_3 13 (fun x => x) a_4 x2 0).bind fun h_5 => (xcv h_5 o0 11).bind fun _ => (fn167 o0 x1 h_5).bind fun r_6 => (if r_6.1 = 123 then (xgR r_6.2 o0 11 24).bind fun a_8 => (xcv r_6.2 o0 11).bind fun _ => (fn171 o0 x1 r_6.2).bind fun r_9 => (xaS r_9.2 13 (fun x => x) a_8 x2 r_9.1).bind fun h_10 => (xgI h_10 o0 11 39).bind fun v_11 => (xpF h_10 o0 11 38 .int (.int v_11)).bind fun h_12 => (xgR h_12 o0 11 24).bind fun a_13 => (xaI h_12 13 a_13 x2).bind fun v_14 => (if v_14 = 2 then (xgR h_12 o0 11 29).bind fun a_16 => (xgI h_12 o0 11 42).bind fun v_17 => (xaS h_12 13 (fun x => x) a_16 x2 v_17).bind fun h_18 => (xgR h_18 o0 11 30).bind fun a_19 => (xgI h_18 o0 11 43).bind fun v_20 => (xaS h_18 13 (fun x => x) a_19 x2 v_20).bind fun h_21 => j176_208 o0 x1 x2 h_21 else j176_208 o0 x1 x2 h_12) else l176_140 xFuel o0 x1 x2 x1 r_6.2)
theorem j176_61_ok {xs : List Int32} {d : Nat} (hd : 6 ≤ d) {u3 : Value} {o0 : Option Nat} {x1 : Int32} {x2 : Int32} {s0 : Option Nat} {s1 : Int32} {s2 : Int32} {h : xH} {r : (Int32 × xH)} (hu3 : u3.category = 1) (hf : j176_61 o0 x1 x2 s0 s1 s2 h = some r) : xEv (xTa xs) d 176 (61, [xrv o0, .int x1, .int x2, u3], [.int s2, .int s1, xrv s0], h) (some (.int r.1), r.2) := by
  unfold j176_61 at hf
  obtain ⟨h_1, eh_1, hf⟩ := x_bind hf
  refine sh_ast (tg := 14) i176_61 (Or.inr (Or.inr ⟨rfl, rfl, rfl⟩)) eh_1 ?_
  refine sh_aload (i' := 0) (n := 1) i176_62 (Or.inr ⟨rfl, by decide⟩) rfl ?_
  obtain ⟨a_2, ea_2, hf⟩ := x_bind hf
  refine sh_getR i176_63 f176_92 ea_2 ?_
  refine ev_do i176_66 rfl ?_
  refine ev_do i176_67 rfl ?_
  obtain ⟨h_3, eh_3, hf⟩ := x_bind hf
  refine sh_ast (tg := 13) i176_68 (Or.inl ⟨rfl, rfl, rfl⟩) eh_3 ?_
  refine sh_aload (i' := 0) (n := 1) i176_69 (Or.inr ⟨rfl, by decide⟩) rfl ?_
  obtain ⟨a_4, ea_4, hf⟩ := x_bind hf
  refine sh_getR i176_70 f176_95 ea_4 ?_
  refine ev_do i176_73 rfl ?_
  refine ev_do i176_74 rfl ?_
  obtain ⟨h_5, eh_5, hf⟩ := x_bind hf
  refine sh_ast (tg := 13) i176_75 (Or.inl ⟨rfl, rfl, rfl⟩) eh_5 ?_
  refine sh_aload (i' := 0) (n := 1) i176_76 (Or.inr ⟨rfl, by decide⟩) rfl ?_
  refine ev_do i176_77 rfl ?_
  obtain ⟨_, eu_23, hf⟩ := x_bind hf
  obtain ⟨r_6, er_6, hf⟩ := x_bind hf
  refine sh_inv (as := [.int x1]) (z := (some (.int r_6.1), r_6.2)) i176_78 v176_227 (Or.inl ⟨by decide, rfl⟩) m167 rfl (Nat.le_of_ble_eq_true rfl) eu_23 (fn167_call (by omega) er_6) ?_
  refine ev_do i176_81 rfl ?_
  refine ev_icmp (t := 138) i176_83 rfl (fun c_7 => ?_) (fun c_7 => ?_)
  · replace hf := x_neg (show ¬ r_6.1 = 123 from c_7) hf
    refine ev_do i176_138 rfl ?_
    refine sh_istore (i' := 3) (n := 1) i176_139 (Or.inr ⟨rfl, by decide⟩) (xokst_of (Nat.le_of_ble_eq_true rfl) rfl) ?_
    exact l176_140_ok hd xFuel hf
  · replace hf := x_pos (show r_6.1 = 123 from Decidable.byContradiction (fun h9 => c_7 h9)) hf
    refine sh_aload (i' := 0) (n := 1) i176_86 (Or.inr ⟨rfl, by decide⟩) rfl ?_
    obtain ⟨a_8, ea_8, hf⟩ := x_bind hf
    refine sh_getR i176_87 f176_77 ea_8 ?_
    refine ev_do i176_90 rfl ?_
    refine sh_aload (i' := 0) (n := 1) i176_91 (Or.inr ⟨rfl, by decide⟩) rfl ?_
    refine ev_do i176_92 rfl ?_
    obtain ⟨_, eu_22, hf⟩ := x_bind hf
    obtain ⟨r_9, er_9, hf⟩ := x_bind hf
    refine sh_inv (as := [.int x1]) (z := (some (.int r_9.1), r_9.2)) i176_93 v176_258 (Or.inl ⟨by decide, rfl⟩) m171 rfl (by simp [xcat, xrv_cat, xc_i, xc_j, xc_a, xc_f]) eu_22 (fn171_call (by omega) er_9) ?_
    obtain ⟨h_10, eh_10, hf⟩ := x_bind hf
    refine sh_ast (tg := 13) i176_96 (Or.inl ⟨rfl, rfl, rfl⟩) eh_10 ?_
    refine sh_aload (i' := 0) (n := 1) i176_97 (Or.inr ⟨rfl, by decide⟩) rfl ?_
    refine sh_aload (i' := 0) (n := 1) i176_98 (Or.inr ⟨rfl, by decide⟩) rfl ?_
    obtain ⟨v_11, ev_11, hf⟩ := x_bind hf
    refine sh_getI i176_99 f176_244 ev_11 ?_
    obtain ⟨h_12, eh_12, hf⟩ := x_bind hf
    refine sh_put i176_102 f176_261 (by decide) rfl eh_12 ?_
    refine sh_aload (i' := 0) (n := 1) i176_105 (Or.inr ⟨rfl, by decide⟩) rfl ?_
    obtain ⟨a_13, ea_13, hf⟩ := x_bind hf
    refine sh_getR i176_106 f176_77 ea_13 ?_
    refine ev_do i176_109 rfl ?_
    obtain ⟨v_14, ev_14, hf⟩ := x_bind hf
    refine sh_aldI (tg := 13) i176_110 (Or.inl ⟨rfl, rfl⟩) ev_14 ?_
    refine ev_do i176_111 rfl ?_
    refine ev_icmp (t := 208) i176_112 rfl (fun c_15 => ?_) (fun c_15 => ?_)
    · replace hf := x_neg (show ¬ v_14 = 2 from c_15) hf
      exact j176_208_ok hd hu3 hf
    · replace hf := x_pos (show v_14 = 2 from Decidable.byContradiction (fun h9 => c_15 h9)) hf
      refine sh_aload (i' := 0) (n := 1) i176_115 (Or.inr ⟨rfl, by decide⟩) rfl ?_
      obtain ⟨a_16, ea_16, hf⟩ := x_bind hf
      refine sh_getR i176_116 f176_92 ea_16 ?_
      refine ev_do i176_119 rfl ?_
      refine sh_aload (i' := 0) (n := 1) i176_120 (Or.inr ⟨rfl, by decide⟩) rfl ?_
      obtain ⟨v_17, ev_17, hf⟩ := x_bind hf
      refine sh_getI i176_121 f176_249 ev_17 ?_
      obtain ⟨h_18, eh_18, hf⟩ := x_bind hf
      refine sh_ast (tg := 13) i176_124 (Or.inl ⟨rfl, rfl, rfl⟩) eh_18 ?_
      refine sh_aload (i' := 0) (n := 1) i176_125 (Or.inr ⟨rfl, by decide⟩) rfl ?_
      obtain ⟨a_19, ea_19, hf⟩ := x_bind hf
      refine sh_getR i176_126 f176_95 ea_19 ?_
      refine ev_do i176_129 rfl ?_
      refine sh_aload (i' := 0) (n := 1) i176_130 (Or.inr ⟨rfl, by decide⟩) rfl ?_
      obtain ⟨v_20, ev_20, hf⟩ := x_bind hf
      refine sh_getI i176_131 f176_252 ev_20 ?_
      obtain ⟨h_21, eh_21, hf⟩ := x_bind hf
      refine sh_ast (tg := 13) i176_134 (Or.inl ⟨rfl, rfl, rfl⟩) eh_21 ?_
      refine sh_goto (t := 208) i176_135 rfl ?_
      exact j176_208_ok hd hu3 hf
def fn176 (o0 : Option Nat) (x1 : Int32) (h : xH) : Option (Int32 × xH) := (xgR h o0 11 15).bind fun a_1 => (xaI h 13 a_1 40).bind fun v_2 => (xgR h o0 11 15).bind fun a_3 => (xaI h 13 a_3 40).bind fun v_4 => (xaS h 13 (fun x => x) a_3 40 (v_4 + 1)).bind fun h_5 => (xgR h_5 o0 11 19).bind fun a_6 => (xcv h_5 o0 11).bind fun _ => (fn174 o0 h_5).bind fun r_7 => (xaI r_7.2 13 a_6 r_7.1).bind fun v_8 => (xaS r_7.2 13 (fun x => x) a_6 r_7.1 (v_8 + 1)).bind fun h_9 => (xgR h_9 o0 11 25).bind fun a_10 => (xaS h_9 13 (fun x => x) a_10 (4800 + v_2) x1).bind fun h_11 => (xgR h_11 o0 11 28).bind fun a_12 => (xgI h_11 o0 11 38).bind fun v_13 => (if v_13 = x1 then j176_61 o0 x1 (4800 + v_2) a_12 (4800 + v_2) 1 h_11 else j176_61 o0 x1 (4800 + v_2) a_12 (4800 + v_2) 0 h_11)
theorem fn176_call {xs : List Int32} {d : Nat} (hd : 7 ≤ d) {o0 : Option Nat} {x1 : Int32} {h : xH} {r : (Int32 × xH)} (hf : fn176 o0 x1 h = some r) : xCall (xTa xs) d 176 [xrv o0, .int x1] h (some (.int r.1), r.2) := by
  obtain ⟨d, rfl⟩ : ∃ d2, d = d2 + 1 := ⟨d - 1, by omega⟩
  replace hd : 6 ≤ d := by omega
  refine call_of2 (fl := [xrv o0, .int x1]) (Ls := [xrv o0, .int x1, .float 0, .float 0]) m176 (by simp [xfl, xrv_cat, xc_i, xc_j, xc_a, xc_f]) (Nat.le_of_ble_eq_true rfl) rfl ?_
  unfold fn176 at hf
  refine ev_do i176_0 rfl ?_
  refine sh_aload (i' := 0) (n := 1) i176_3 (Or.inr ⟨rfl, by decide⟩) rfl ?_
  obtain ⟨a_1, ea_1, hf⟩ := x_bind hf
  refine sh_getR i176_4 f176_50 ea_1 ?_
  refine ev_do i176_7 rfl ?_
  obtain ⟨v_2, ev_2, hf⟩ := x_bind hf
  refine sh_aldI (tg := 13) i176_9 (Or.inl ⟨rfl, rfl⟩) ev_2 ?_
  refine ev_do i176_10 rfl ?_
  refine sh_istore (i' := 2) (n := 1) i176_11 (Or.inr ⟨rfl, by decide⟩) (xokst_of (Nat.le_of_ble_eq_true rfl) rfl) ?_
  refine sh_aload (i' := 0) (n := 1) i176_12 (Or.inr ⟨rfl, by decide⟩) rfl ?_
  obtain ⟨a_3, ea_3, hf⟩ := x_bind hf
  refine sh_getR i176_13 f176_50 ea_3 ?_
  refine ev_do i176_16 rfl ?_
  refine sh_dup2 i176_18 rfl (xrv_cat (a_3)) ?_
  obtain ⟨v_4, ev_4, hf⟩ := x_bind hf
  refine sh_aldI (tg := 13) i176_19 (Or.inl ⟨rfl, rfl⟩) ev_4 ?_
  refine ev_do i176_20 rfl ?_
  refine ev_do i176_21 rfl ?_
  obtain ⟨h_5, eh_5, hf⟩ := x_bind hf
  refine sh_ast (tg := 13) i176_22 (Or.inl ⟨rfl, rfl, rfl⟩) eh_5 ?_
  refine sh_aload (i' := 0) (n := 1) i176_23 (Or.inr ⟨rfl, by decide⟩) rfl ?_
  obtain ⟨a_6, ea_6, hf⟩ := x_bind hf
  refine sh_getR i176_24 f176_62 ea_6 ?_
  refine sh_aload (i' := 0) (n := 1) i176_27 (Or.inr ⟨rfl, by decide⟩) rfl ?_
  obtain ⟨_, eu_15, hf⟩ := x_bind hf
  obtain ⟨r_7, er_7, hf⟩ := x_bind hf
  refine sh_inv (as := []) (z := (some (.int r_7.1), r_7.2)) i176_28 v176_274 (Or.inl ⟨by decide, rfl⟩) m174 rfl (by simp [xcat, xrv_cat, xc_i, xc_j, xc_a, xc_f]) eu_15 (fn174_call (by omega) er_7) ?_
  refine sh_dup2 i176_31 rfl (xrv_cat (a_6)) ?_
  obtain ⟨v_8, ev_8, hf⟩ := x_bind hf
  refine sh_aldI (tg := 13) i176_32 (Or.inl ⟨rfl, rfl⟩) ev_8 ?_
  refine ev_do i176_33 rfl ?_
  refine ev_do i176_34 rfl ?_
  obtain ⟨h_9, eh_9, hf⟩ := x_bind hf
  refine sh_ast (tg := 13) i176_35 (Or.inl ⟨rfl, rfl, rfl⟩) eh_9 ?_
  refine sh_aload (i' := 0) (n := 1) i176_36 (Or.inr ⟨rfl, by decide⟩) rfl ?_
  obtain ⟨a_10, ea_10, hf⟩ := x_bind hf
  refine sh_getR i176_37 f176_80 ea_10 ?_
  refine ev_do i176_40 rfl ?_
  refine ev_do i176_41 rfl ?_
  obtain ⟨h_11, eh_11, hf⟩ := x_bind hf
  refine sh_ast (tg := 13) i176_42 (Or.inl ⟨rfl, rfl, rfl⟩) eh_11 ?_
  refine sh_aload (i' := 0) (n := 1) i176_43 (Or.inr ⟨rfl, by decide⟩) rfl ?_
  obtain ⟨a_12, ea_12, hf⟩ := x_bind hf
  refine sh_getR i176_44 f176_89 ea_12 ?_
  refine ev_do i176_47 rfl ?_
  refine sh_aload (i' := 0) (n := 1) i176_48 (Or.inr ⟨rfl, by decide⟩) rfl ?_
  obtain ⟨v_13, ev_13, hf⟩ := x_bind hf
  refine sh_getI i176_49 f176_261 ev_13 ?_
  refine ev_do i176_52 rfl ?_
  refine ev_icmp (t := 60) i176_53 rfl (fun c_14 => ?_) (fun c_14 => ?_)
  · replace hf := x_neg (show ¬ v_13 = x1 from c_14) hf
    refine ev_do i176_60 rfl ?_
    exact j176_61_ok hd rfl hf
  · replace hf := x_pos (show v_13 = x1 from Decidable.byContradiction (fun h9 => c_14 h9)) hf
    refine ev_do i176_56 rfl ?_
    refine sh_goto (t := 61) i176_57 rfl ?_
    exact j176_61_ok hd rfl hf
end
section
def j175_72  (o0 : Option Nat) (x1 : Int32) (x2 : Int32) (h : xH) : Option xH := (xpF h o0 11 38 .int (.int (-1))).bind fun h_1 => some h_1
theorem j175_72_ok {xs : List Int32} {d : Nat} (hd : 7 ≤ d) {o0 : Option Nat} {x1 : Int32} {x2 : Int32} {h : xH} {r : xH} (hf : j175_72 o0 x1 x2 h = some r) : xEv (xTa xs) d 175 (72, [xrv o0, .int x1, .int x2], [], h) (none, r) := by
  unfold j175_72 at hf
  refine sh_aload (i' := 0) (n := 1) i175_72 (Or.inr ⟨rfl, by decide⟩) rfl ?_
  refine ev_do i175_73 rfl ?_
  obtain ⟨h_1, eh_1, hf⟩ := x_bind hf
  refine sh_put i175_74 f175_261 (by decide) rfl eh_1 ?_
  obtain rfl := Option.some.inj hf
  exact sh_vret i175_77 m175 rfl
def l175_6  : Nat → Option Nat → Int32 → Int32 → xH → Option xH
  | 0 => fun _ _ _ _ => none
  | n + 1 => fun o0 x1 x2 h => (xgI h o0 11 37).bind fun v_1 => (if v_1 ≤ x2 then j175_72 o0 x1 x2 h else (xgI h o0 11 31).bind fun v_3 => (if v_3 = 0 then (xcv h o0 11).bind fun _ => (fn172 o0 x2 h).bind fun r_5 => (if r_5.1 = 0 then (xgR r_5.2 o0 11 15).bind fun a_7 => (xaI r_5.2 13 a_7 40).bind fun v_8 => (if v_8 = 120 then (xcv r_5.2 o0 11).bind fun _ => (fn166 o0 4 x2 r_5.2).bind fun h_10 => l175_6 n o0 x1 x2 h_10 else (xcv r_5.2 o0 11).bind fun _ => (fn176 o0 x2 r_5.2).bind fun r_12 => (xcv r_12.2 o0 11).bind fun _ => (fn169 o0 r_12.1 r_12.2).bind fun r_13 => l175_6 n o0 x1 r_13.1 r_13.2) else (xcv r_5.2 o0 11).bind fun _ => (fn166 o0 2 x2 r_5.2).bind fun h_16 => l175_6 n o0 x1 x2 h_16) else j175_72 o0 x1 x2 h))
theorem l175_6_ok {xs : List Int32} {d : Nat} (hd : 7 ≤ d) : ∀ (n : Nat) {o0 : Option Nat} {x1 : Int32} {x2 : Int32} {h : xH} {r : xH}, l175_6 n o0 x1 x2 h = some r → xEv (xTa xs) d 175 (6, [xrv o0, .int x1, .int x2], [], h) (none, r) := by
  intro n
  induction n with
  | zero => intros; rename_i hf; cases hf
  | succ n ih =>
    intro o0 x1 x2 h r hf
    replace hf : ((xgI h o0 11 37).bind fun v_1 => (if v_1 ≤ x2 then j175_72 o0 x1 x2 h else (xgI h o0 11 31).bind fun v_3 => (if v_3 = 0 then (xcv h o0 11).bind fun _ => (fn172 o0 x2 h).bind fun r_5 => (if r_5.1 = 0 then (xgR r_5.2 o0 11 15).bind fun a_7 => (xaI r_5.2 13 a_7 40).bind fun v_8 => (if v_8 = 120 then (xcv r_5.2 o0 11).bind fun _ => (fn166 o0 4 x2 r_5.2).bind fun h_10 => l175_6 n o0 x1 x2 h_10 else (xcv r_5.2 o0 11).bind fun _ => (fn176 o0 x2 r_5.2).bind fun r_12 => (xcv r_12.2 o0 11).bind fun _ => (fn169 o0 r_12.1 r_12.2).bind fun r_13 => l175_6 n o0 x1 r_13.1 r_13.2) else (xcv r_5.2 o0 11).bind fun _ => (fn166 o0 2 x2 r_5.2).bind fun h_16 => l175_6 n o0 x1 x2 h_16) else j175_72 o0 x1 x2 h))) = some r := hf
    refine ev_do i175_6 rfl ?_
    refine sh_aload (i' := 0) (n := 1) i175_7 (Or.inr ⟨rfl, by decide⟩) rfl ?_
    obtain ⟨v_1, ev_1, hf⟩ := x_bind hf
    refine sh_getI i175_8 f175_224 ev_1 ?_
    refine ev_icmp (t := 72) i175_11 rfl (fun c_2 => ?_) (fun c_2 => ?_)
    · replace hf := x_pos (show v_1 ≤ x2 from c_2) hf
      exact j175_72_ok hd hf
    · replace hf := x_neg (show ¬ v_1 ≤ x2 from c_2) hf
      refine sh_aload (i' := 0) (n := 1) i175_14 (Or.inr ⟨rfl, by decide⟩) rfl ?_
      obtain ⟨v_3, ev_3, hf⟩ := x_bind hf
      refine sh_getI i175_15 f175_218 ev_3 ?_
      refine ev_if (t := 72) i175_18 rfl (fun c_4 => ?_) (fun c_4 => ?_)
      · replace hf := x_neg (show ¬ v_3 = 0 from c_4) hf
        exact j175_72_ok hd hf
      · replace hf := x_pos (show v_3 = 0 from Decidable.byContradiction (fun h9 => c_4 h9)) hf
        refine sh_aload (i' := 0) (n := 1) i175_21 (Or.inr ⟨rfl, by decide⟩) rfl ?_
        refine ev_do i175_22 rfl ?_
        obtain ⟨_, eu_18, hf⟩ := x_bind hf
        obtain ⟨r_5, er_5, hf⟩ := x_bind hf
        refine sh_inv (as := [.int x2]) (z := (some (.int r_5.1), r_5.2)) i175_23 v175_264 (Or.inl ⟨by decide, rfl⟩) m172 rfl (Nat.le_of_ble_eq_true rfl) eu_18 (fn172_call (by omega) er_5) ?_
        refine ev_if (t := 38) i175_26 rfl (fun c_6 => ?_) (fun c_6 => ?_)
        · replace hf := x_pos (show r_5.1 = 0 from c_6) hf
          refine sh_aload (i' := 0) (n := 1) i175_38 (Or.inr ⟨rfl, by decide⟩) rfl ?_
          obtain ⟨a_7, ea_7, hf⟩ := x_bind hf
          refine sh_getR i175_39 f175_50 ea_7 ?_
          refine ev_do i175_42 rfl ?_
          obtain ⟨v_8, ev_8, hf⟩ := x_bind hf
          refine sh_aldI (tg := 13) i175_44 (Or.inl ⟨rfl, rfl⟩) ev_8 ?_
          refine ev_do i175_45 rfl ?_
          refine ev_icmp (t := 59) i175_47 rfl (fun c_9 => ?_) (fun c_9 => ?_)
          · replace hf := x_neg (show ¬ v_8 = 120 from c_9) hf
            refine sh_aload (i' := 0) (n := 1) i175_59 (Or.inr ⟨rfl, by decide⟩) rfl ?_
            refine sh_aload (i' := 0) (n := 1) i175_60 (Or.inr ⟨rfl, by decide⟩) rfl ?_
            refine ev_do i175_61 rfl ?_
            obtain ⟨_, eu_15, hf⟩ := x_bind hf
            obtain ⟨r_12, er_12, hf⟩ := x_bind hf
            refine sh_inv (as := [.int x2]) (z := (some (.int r_12.1), r_12.2)) i175_62 v175_271 (Or.inl ⟨by decide, rfl⟩) m176 rfl (by simp [xcat, xrv_cat, xc_i, xc_j, xc_a, xc_f]) eu_15 (fn176_call (by omega) er_12) ?_
            obtain ⟨_, eu_14, hf⟩ := x_bind hf
            obtain ⟨r_13, er_13, hf⟩ := x_bind hf
            refine sh_inv (as := [.int r_12.1]) (z := (some (.int r_13.1), r_13.2)) i175_65 v175_255 (Or.inl ⟨by decide, rfl⟩) m169 rfl (Nat.le_of_ble_eq_true rfl) eu_14 (fn169_call (by omega) er_13) ?_
            refine sh_istore (i' := 2) (n := 1) i175_68 (Or.inr ⟨rfl, by decide⟩) (xokst_of (Nat.le_of_ble_eq_true rfl) rfl) ?_
            refine sh_goto (t := 6) i175_69 rfl ?_
            exact ih hf
          · replace hf := x_pos (show v_8 = 120 from Decidable.byContradiction (fun h9 => c_9 h9)) hf
            refine sh_aload (i' := 0) (n := 1) i175_50 (Or.inr ⟨rfl, by decide⟩) rfl ?_
            refine ev_do i175_51 rfl ?_
            refine ev_do i175_52 rfl ?_
            obtain ⟨_, eu_11, hf⟩ := x_bind hf
            obtain ⟨h_10, eh_10, hf⟩ := x_bind hf
            refine sh_inv (as := [.int x2, .int 4]) (z := (none, h_10)) i175_53 v175_267 (Or.inl ⟨by decide, rfl⟩) m166 rfl (Nat.le_of_ble_eq_true rfl) eu_11 (fn166_call (by omega) eh_10) ?_
            refine sh_goto (t := 6) i175_56 rfl ?_
            exact ih hf
        · replace hf := x_neg (show ¬ r_5.1 = 0 from c_6) hf
          refine sh_aload (i' := 0) (n := 1) i175_29 (Or.inr ⟨rfl, by decide⟩) rfl ?_
          refine ev_do i175_30 rfl ?_
          refine ev_do i175_31 rfl ?_
          obtain ⟨_, eu_17, hf⟩ := x_bind hf
          obtain ⟨h_16, eh_16, hf⟩ := x_bind hf
          refine sh_inv (as := [.int x2, .int 2]) (z := (none, h_16)) i175_32 v175_267 (Or.inl ⟨by decide, rfl⟩) m166 rfl (Nat.le_of_ble_eq_true rfl) eu_17 (fn166_call (by omega) eh_16) ?_
          refine sh_goto (t := 6) i175_35 rfl ?_
          exact ih hf
def fn175 (o0 : Option Nat) (x1 : Int32) (h : xH) : Option xH := (xcv h o0 11).bind fun _ => (fn169 o0 x1 h).bind fun r_1 => l175_6 xFuel o0 x1 r_1.1 r_1.2
theorem fn175_call {xs : List Int32} {d : Nat} (hd : 8 ≤ d) {o0 : Option Nat} {x1 : Int32} {h : xH} {r : xH} (hf : fn175 o0 x1 h = some r) : xCall (xTa xs) d 175 [xrv o0, .int x1] h (none, r) := by
  obtain ⟨d, rfl⟩ : ∃ d2, d = d2 + 1 := ⟨d - 1, by omega⟩
  replace hd : 7 ≤ d := by omega
  refine call_of2 (fl := [xrv o0, .int x1]) (Ls := [xrv o0, .int x1, .float 0]) m175 (by simp [xfl, xrv_cat, xc_i, xc_j, xc_a, xc_f]) (Nat.le_of_ble_eq_true rfl) rfl ?_
  unfold fn175 at hf
  refine sh_aload (i' := 0) (n := 1) i175_0 (Or.inr ⟨rfl, by decide⟩) rfl ?_
  refine ev_do i175_1 rfl ?_
  obtain ⟨_, eu_2, hf⟩ := x_bind hf
  obtain ⟨r_1, er_1, hf⟩ := x_bind hf
  refine sh_inv (as := [.int x1]) (z := (some (.int r_1.1), r_1.2)) i175_2 v175_255 (Or.inl ⟨by decide, rfl⟩) m169 rfl (Nat.le_of_ble_eq_true rfl) eu_2 (fn169_call (by omega) er_1) ?_
  refine sh_istore (i' := 2) (n := 1) i175_5 (Or.inr ⟨rfl, by decide⟩) (xokst_of (Nat.le_of_ble_eq_true rfl) rfl) ?_
  exact l175_6_ok hd xFuel hf
end
section
def j178_23  (o0 : Option Nat) (x1 : Int32) (x2 : Int32) (x3 : Int32) (h : xH) : Option (Int32 × xH) := some (x3, h)
theorem j178_23_ok {xs : List Int32} {d : Nat} (hd : 2 ≤ d) {o0 : Option Nat} {x1 : Int32} {x2 : Int32} {x3 : Int32} {h : xH} {r : (Int32 × xH)} (hf : j178_23 o0 x1 x2 x3 h = some r) : xEv (xTa xs) d 178 (23, [xrv o0, .int x1, .int x2, .int x3], [], h) (some (.int r.1), r.2) := by
  unfold j178_23 at hf
  refine ev_do i178_23 rfl ?_
  obtain rfl := Option.some.inj hf
  exact sh_iret i178_24 m178 rfl rfl
def l178_2  : Nat → Option Nat → Int32 → Int32 → Int32 → xH → Option (Int32 × xH)
  | 0 => fun _ _ _ _ _ => none
  | n + 1 => fun o0 x1 x2 x3 h => (if x2 ≤ x3 then j178_23 o0 x1 x2 x3 h else (xcv h o0 11).bind fun _ => (fn167 o0 x3 h).bind fun r_2 => (if r_2.1 = 10 then j178_23 o0 x1 x2 x3 r_2.2 else l178_2 n o0 x1 x2 (x3 + 1) r_2.2))
theorem l178_2_ok {xs : List Int32} {d : Nat} (hd : 2 ≤ d) : ∀ (n : Nat) {o0 : Option Nat} {x1 : Int32} {x2 : Int32} {x3 : Int32} {h : xH} {r : (Int32 × xH)}, l178_2 n o0 x1 x2 x3 h = some r → xEv (xTa xs) d 178 (2, [xrv o0, .int x1, .int x2, .int x3], [], h) (some (.int r.1), r.2) := by
  intro n
  induction n with
  | zero => intros; rename_i hf; cases hf
  | succ n ih =>
    intro o0 x1 x2 x3 h r hf
    replace hf : ((if x2 ≤ x3 then j178_23 o0 x1 x2 x3 h else (xcv h o0 11).bind fun _ => (fn167 o0 x3 h).bind fun r_2 => (if r_2.1 = 10 then j178_23 o0 x1 x2 x3 r_2.2 else l178_2 n o0 x1 x2 (x3 + 1) r_2.2))) = some r := hf
    refine ev_do i178_2 rfl ?_
    refine ev_do i178_3 rfl ?_
    refine ev_icmp (t := 23) i178_4 rfl (fun c_1 => ?_) (fun c_1 => ?_)
    · replace hf := x_pos (show x2 ≤ x3 from c_1) hf
      exact j178_23_ok hd hf
    · replace hf := x_neg (show ¬ x2 ≤ x3 from c_1) hf
      refine sh_aload (i' := 0) (n := 1) i178_7 (Or.inr ⟨rfl, by decide⟩) rfl ?_
      refine ev_do i178_8 rfl ?_
      obtain ⟨_, eu_4, hf⟩ := x_bind hf
      obtain ⟨r_2, er_2, hf⟩ := x_bind hf
      refine sh_inv (as := [.int x3]) (z := (some (.int r_2.1), r_2.2)) i178_9 v178_227 (Or.inl ⟨by decide, rfl⟩) m167 rfl (Nat.le_of_ble_eq_true rfl) eu_4 (fn167_call (by omega) er_2) ?_
      refine ev_do i178_12 rfl ?_
      refine ev_icmp (t := 23) i178_14 rfl (fun c_3 => ?_) (fun c_3 => ?_)
      · replace hf := x_pos (show r_2.1 = 10 from c_3) hf
        exact j178_23_ok hd hf
      · replace hf := x_neg (show ¬ r_2.1 = 10 from c_3) hf
        refine sh_inc (i' := 3) i178_17 rfl (xokst_of (Nat.le_of_ble_eq_true rfl) rfl) rfl ?_
        refine sh_goto (t := 2) i178_20 rfl ?_
        exact ih hf
def fn178 (o0 : Option Nat) (x1 : Int32) (x2 : Int32) (h : xH) : Option (Int32 × xH) := l178_2 xFuel o0 x1 x2 x1 h
theorem fn178_call {xs : List Int32} {d : Nat} (hd : 3 ≤ d) {o0 : Option Nat} {x1 : Int32} {x2 : Int32} {h : xH} {r : (Int32 × xH)} (hf : fn178 o0 x1 x2 h = some r) : xCall (xTa xs) d 178 [xrv o0, .int x1, .int x2] h (some (.int r.1), r.2) := by
  obtain ⟨d, rfl⟩ : ∃ d2, d = d2 + 1 := ⟨d - 1, by omega⟩
  replace hd : 2 ≤ d := by omega
  refine call_of2 (fl := [xrv o0, .int x1, .int x2]) (Ls := [xrv o0, .int x1, .int x2, .float 0]) m178 (by simp [xfl, xrv_cat, xc_i, xc_j, xc_a, xc_f]) (Nat.le_of_ble_eq_true rfl) rfl ?_
  unfold fn178 at hf
  refine ev_do i178_0 rfl ?_
  refine sh_istore (i' := 3) (n := 1) i178_1 (Or.inr ⟨rfl, by decide⟩) (xokst_of (Nat.le_of_ble_eq_true rfl) rfl) ?_
  exact l178_2_ok hd xFuel hf
end
section
def j179_37  (o0 : Option Nat) (x1 : Int32) (s0 : Int32) (h : xH) : Option (Int32 × xH) := (if s0 &&& 1 = s0 then some (s0, h) else none)
theorem j179_37_ok {xs : List Int32} {d : Nat} (hd : 2 ≤ d) {o0 : Option Nat} {x1 : Int32} {s0 : Int32} {h : xH} {r : (Int32 × xH)} (hf : j179_37 o0 x1 s0 h = some r) : xEv (xTa xs) d 179 (37, [xrv o0, .int x1], [.int s0], h) (some (.int r.1), r.2) := by
  unfold j179_37 at hf
  by_cases c_1 : s0 &&& 1 = s0
  · replace hf := x_pos c_1 hf
    obtain rfl := Option.some.inj hf
    exact sh_iret i179_37 m179 rfl (congrArg Value.int c_1)
  · replace hf := x_neg c_1 hf
    cases hf
def j179_36  (o0 : Option Nat) (x1 : Int32) (h : xH) : Option (Int32 × xH) := j179_37 o0 x1 0 h
theorem j179_36_ok {xs : List Int32} {d : Nat} (hd : 2 ≤ d) {o0 : Option Nat} {x1 : Int32} {h : xH} {r : (Int32 × xH)} (hf : j179_36 o0 x1 h = some r) : xEv (xTa xs) d 179 (36, [xrv o0, .int x1], [], h) (some (.int r.1), r.2) := by
  unfold j179_36 at hf
  refine ev_do i179_36 rfl ?_
  exact j179_37_ok hd hf
def j179_32  (o0 : Option Nat) (x1 : Int32) (h : xH) : Option (Int32 × xH) := j179_37 o0 x1 1 h
theorem j179_32_ok {xs : List Int32} {d : Nat} (hd : 2 ≤ d) {o0 : Option Nat} {x1 : Int32} {h : xH} {r : (Int32 × xH)} (hf : j179_32 o0 x1 h = some r) : xEv (xTa xs) d 179 (32, [xrv o0, .int x1], [], h) (some (.int r.1), r.2) := by
  unfold j179_32 at hf
  refine ev_do i179_32 rfl ?_
  refine sh_goto (t := 37) i179_33 rfl ?_
  exact j179_37_ok hd hf
def fn179 (o0 : Option Nat) (x1 : Int32) (h : xH) : Option (Int32 × xH) := (xcv h o0 11).bind fun _ => (fn167 o0 x1 h).bind fun r_1 => (if r_1.1 = 45 then (xgI r_1.2 o0 11 37).bind fun v_3 => (if (x1 + 1) = v_3 then j179_32 o0 x1 r_1.2 else (xcv r_1.2 o0 11).bind fun _ => (fn167 o0 (x1 + 1) r_1.2).bind fun r_5 => (if r_5.1 = 32 then j179_32 o0 x1 r_5.2 else j179_36 o0 x1 r_5.2)) else j179_36 o0 x1 r_1.2)
theorem fn179_call {xs : List Int32} {d : Nat} (hd : 3 ≤ d) {o0 : Option Nat} {x1 : Int32} {h : xH} {r : (Int32 × xH)} (hf : fn179 o0 x1 h = some r) : xCall (xTa xs) d 179 [xrv o0, .int x1] h (some (.int r.1), r.2) := by
  obtain ⟨d, rfl⟩ : ∃ d2, d = d2 + 1 := ⟨d - 1, by omega⟩
  replace hd : 2 ≤ d := by omega
  refine call_of2 (fl := [xrv o0, .int x1]) (Ls := [xrv o0, .int x1]) m179 (by simp [xfl, xrv_cat, xc_i, xc_j, xc_a, xc_f]) (Nat.le_of_ble_eq_true rfl) rfl ?_
  unfold fn179 at hf
  refine sh_aload (i' := 0) (n := 1) i179_0 (Or.inr ⟨rfl, by decide⟩) rfl ?_
  refine ev_do i179_1 rfl ?_
  obtain ⟨_, eu_8, hf⟩ := x_bind hf
  obtain ⟨r_1, er_1, hf⟩ := x_bind hf
  refine sh_inv (as := [.int x1]) (z := (some (.int r_1.1), r_1.2)) i179_2 v179_227 (Or.inl ⟨by decide, rfl⟩) m167 rfl (Nat.le_of_ble_eq_true rfl) eu_8 (fn167_call (by omega) er_1) ?_
  refine ev_do i179_5 rfl ?_
  refine ev_icmp (t := 36) i179_7 rfl (fun c_2 => ?_) (fun c_2 => ?_)
  · replace hf := x_neg (show ¬ r_1.1 = 45 from c_2) hf
    exact j179_36_ok hd hf
  · replace hf := x_pos (show r_1.1 = 45 from Decidable.byContradiction (fun h9 => c_2 h9)) hf
    refine ev_do i179_10 rfl ?_
    refine ev_do i179_11 rfl ?_
    refine ev_do i179_12 rfl ?_
    refine sh_aload (i' := 0) (n := 1) i179_13 (Or.inr ⟨rfl, by decide⟩) rfl ?_
    obtain ⟨v_3, ev_3, hf⟩ := x_bind hf
    refine sh_getI i179_14 f179_224 ev_3 ?_
    refine ev_icmp (t := 32) i179_17 rfl (fun c_4 => ?_) (fun c_4 => ?_)
    · replace hf := x_pos (show (x1 + 1) = v_3 from c_4) hf
      exact j179_32_ok hd hf
    · replace hf := x_neg (show ¬ (x1 + 1) = v_3 from c_4) hf
      refine sh_aload (i' := 0) (n := 1) i179_20 (Or.inr ⟨rfl, by decide⟩) rfl ?_
      refine ev_do i179_21 rfl ?_
      refine ev_do i179_22 rfl ?_
      refine ev_do i179_23 rfl ?_
      obtain ⟨_, eu_7, hf⟩ := x_bind hf
      obtain ⟨r_5, er_5, hf⟩ := x_bind hf
      refine sh_inv (as := [.int (x1 + 1)]) (z := (some (.int r_5.1), r_5.2)) i179_24 v179_227 (Or.inl ⟨by decide, rfl⟩) m167 rfl (Nat.le_of_ble_eq_true rfl) eu_7 (fn167_call (by omega) er_5) ?_
      refine ev_do i179_27 rfl ?_
      refine ev_icmp (t := 36) i179_29 rfl (fun c_6 => ?_) (fun c_6 => ?_)
      · replace hf := x_neg (show ¬ r_5.1 = 32 from c_6) hf
        exact j179_36_ok hd hf
      · replace hf := x_pos (show r_5.1 = 32 from Decidable.byContradiction (fun h9 => c_6 h9)) hf
        exact j179_32_ok hd hf
end
section
def j180_153  (o0 : Option Nat) (x1 : Int32) (x2 : Int32) (x3 : Int32) (x4 : Int32) (x5 : Int32) (h : xH) : Option xH := some h
theorem j180_153_ok {xs : List Int32} {d : Nat} (hd : 8 ≤ d) {o0 : Option Nat} {x1 : Int32} {x2 : Int32} {x3 : Int32} {x4 : Int32} {x5 : Int32} {h : xH} {r : xH} (hf : j180_153 o0 x1 x2 x3 x4 x5 h = some r) : xEv (xTa xs) d 180 (153, [xrv o0, .int x1, .int x2, .int x3, .int x4, .int x5], [], h) (none, r) := by
  unfold j180_153 at hf
  obtain rfl := Option.some.inj hf
  exact sh_vret i180_153 m180 rfl
def j180_98  (o0 : Option Nat) (x1 : Int32) (x2 : Int32) (x3 : Int32) (x4 : Int32) (x5 : Int32) (h : xH) : Option xH := (xcv h o0 11).bind fun _ => (fn166 o0 3 x1 h).bind fun h_1 => j180_153 o0 x1 x2 x3 x4 x5 h_1
theorem j180_98_ok {xs : List Int32} {d : Nat} (hd : 8 ≤ d) {o0 : Option Nat} {x1 : Int32} {x2 : Int32} {x3 : Int32} {x4 : Int32} {x5 : Int32} {h : xH} {r : xH} (hf : j180_98 o0 x1 x2 x3 x4 x5 h = some r) : xEv (xTa xs) d 180 (98, [xrv o0, .int x1, .int x2, .int x3, .int x4, .int x5], [], h) (none, r) := by
  unfold j180_98 at hf
  refine sh_aload (i' := 0) (n := 1) i180_98 (Or.inr ⟨rfl, by decide⟩) rfl ?_
  refine ev_do i180_99 rfl ?_
  refine ev_do i180_100 rfl ?_
  obtain ⟨_, eu_2, hf⟩ := x_bind hf
  obtain ⟨h_1, eh_1, hf⟩ := x_bind hf
  refine sh_inv (as := [.int x1, .int 3]) (z := (none, h_1)) i180_101 v180_267 (Or.inl ⟨by decide, rfl⟩) m166 rfl (Nat.le_of_ble_eq_true rfl) eu_2 (fn166_call (by omega) eh_1) ?_
  refine sh_goto (t := 153) i180_104 rfl ?_
  exact j180_153_ok hd hf
def j180_55  (o0 : Option Nat) (x1 : Int32) (x2 : Int32) (x3 : Int32) (s0 : Int32) (h : xH) : Option xH := (xgI h o0 11 35).bind fun v_1 => (if v_1 = 0 then (if (xrem x2 2) = 1 then j180_98 o0 x1 x2 x3 s0 (x2 / 2) h else (if 2 < (x2 / 2) then j180_98 o0 x1 x2 x3 s0 (x2 / 2) h else (if (x2 / 2) ≤ s0 then (xgR h o0 11 14).bind fun a_6 => (xaI h 13 a_6 40).bind fun v_7 => (if v_7 = 24 then (xcv h o0 11).bind fun _ => (fn166 o0 4 x1 h).bind fun h_9 => j180_153 o0 x1 x2 x3 s0 (x2 / 2) h_9 else (xcv h o0 11).bind fun _ => (fn173 o0 1 (x2 / 2) x1 h).bind fun h_11 => (xgR h_11 o0 11 23).bind fun a_12 => (xcv h_11 o0 11).bind fun _ => (fn174 o0 h_11).bind fun r_13 => (xaS r_13.2 14 (vp_nar .boolean) a_12 r_13.1 x3).bind fun h_14 => (xcv h_14 o0 11).bind fun _ => (fn175 o0 (x1 + 1) h_14).bind fun h_15 => j180_153 o0 x1 x2 x3 s0 (x2 / 2) h_15) else j180_98 o0 x1 x2 x3 s0 (x2 / 2) h))) else (xcv h o0 11).bind fun _ => (fn166 o0 2 x1 h).bind fun h_19 => j180_153 o0 x1 x2 x3 s0 (x2 / 2) h_19)
theorem j180_55_ok {xs : List Int32} {d : Nat} (hd : 8 ≤ d) {u4 : Value} {u5 : Value} {o0 : Option Nat} {x1 : Int32} {x2 : Int32} {x3 : Int32} {s0 : Int32} {h : xH} {r : xH} (hu4 : u4.category = 1) (hu5 : u5.category = 1) (hf : j180_55 o0 x1 x2 x3 s0 h = some r) : xEv (xTa xs) d 180 (55, [xrv o0, .int x1, .int x2, .int x3, u4, u5], [.int s0], h) (none, r) := by
  unfold j180_55 at hf
  refine sh_istore (i' := 4) (n := 2) i180_55 (Or.inl rfl) (xokst_of (Nat.le_of_ble_eq_true rfl) rfl) ?_
  refine ev_do i180_57 rfl ?_
  refine ev_do i180_58 rfl ?_
  refine sh_div i180_59 (by decide) ?_
  refine sh_istore (i' := 5) (n := 2) i180_60 (Or.inl rfl) (xokst_of (Nat.le_of_ble_eq_true rfl) rfl) ?_
  refine sh_aload (i' := 0) (n := 1) i180_62 (Or.inr ⟨rfl, by decide⟩) rfl ?_
  obtain ⟨v_1, ev_1, hf⟩ := x_bind hf
  refine sh_getI i180_63 f180_278 ev_1 ?_
  refine ev_if (t := 78) i180_66 rfl (fun c_2 => ?_) (fun c_2 => ?_)
  · replace hf := x_pos (show v_1 = 0 from c_2) hf
    refine ev_do i180_78 rfl ?_
    refine ev_do i180_79 rfl ?_
    refine sh_rem i180_80 (by decide) ?_
    refine ev_do i180_81 rfl ?_
    refine ev_icmp (t := 98) i180_82 rfl (fun c_3 => ?_) (fun c_3 => ?_)
    · replace hf := x_pos (show (xrem x2 2) = 1 from c_3) hf
      exact j180_98_ok hd hf
    · replace hf := x_neg (show ¬ (xrem x2 2) = 1 from c_3) hf
      refine ev_do i180_85 rfl ?_
      refine ev_do i180_87 rfl ?_
      refine ev_icmp (t := 98) i180_88 rfl (fun c_4 => ?_) (fun c_4 => ?_)
      · replace hf := x_pos (show 2 < (x2 / 2) from c_4) hf
        exact j180_98_ok hd hf
      · replace hf := x_neg (show ¬ 2 < (x2 / 2) from c_4) hf
        refine ev_do i180_91 rfl ?_
        refine ev_do i180_93 rfl ?_
        refine ev_icmp (t := 107) i180_95 rfl (fun c_5 => ?_) (fun c_5 => ?_)
        · replace hf := x_pos (show (x2 / 2) ≤ s0 from c_5) hf
          refine sh_aload (i' := 0) (n := 1) i180_107 (Or.inr ⟨rfl, by decide⟩) rfl ?_
          obtain ⟨a_6, ea_6, hf⟩ := x_bind hf
          refine sh_getR i180_108 f180_47 ea_6 ?_
          refine ev_do i180_111 rfl ?_
          obtain ⟨v_7, ev_7, hf⟩ := x_bind hf
          refine sh_aldI (tg := 13) i180_113 (Or.inl ⟨rfl, rfl⟩) ev_7 ?_
          refine ev_do i180_114 rfl ?_
          refine ev_icmp (t := 128) i180_116 rfl (fun c_8 => ?_) (fun c_8 => ?_)
          · replace hf := x_neg (show ¬ v_7 = 24 from c_8) hf
            refine sh_aload (i' := 0) (n := 1) i180_128 (Or.inr ⟨rfl, by decide⟩) rfl ?_
            refine ev_do i180_129 rfl ?_
            refine ev_do i180_130 rfl ?_
            refine ev_do i180_132 rfl ?_
            obtain ⟨_, eu_18, hf⟩ := x_bind hf
            obtain ⟨h_11, eh_11, hf⟩ := x_bind hf
            refine sh_inv (as := [.int x1, .int (x2 / 2), .int 1]) (z := (none, h_11)) i180_133 v180_301 (Or.inl ⟨by decide, rfl⟩) m173 rfl (Nat.le_of_ble_eq_true rfl) eu_18 (fn173_call (by omega) eh_11) ?_
            refine sh_aload (i' := 0) (n := 1) i180_136 (Or.inr ⟨rfl, by decide⟩) rfl ?_
            obtain ⟨a_12, ea_12, hf⟩ := x_bind hf
            refine sh_getR i180_137 f180_74 ea_12 ?_
            refine sh_aload (i' := 0) (n := 1) i180_140 (Or.inr ⟨rfl, by decide⟩) rfl ?_
            obtain ⟨_, eu_17, hf⟩ := x_bind hf
            obtain ⟨r_13, er_13, hf⟩ := x_bind hf
            refine sh_inv (as := []) (z := (some (.int r_13.1), r_13.2)) i180_141 v180_274 (Or.inl ⟨by decide, rfl⟩) m174 rfl (by simp [xcat, xrv_cat, xc_i, xc_j, xc_a, xc_f]) eu_17 (fn174_call (by omega) er_13) ?_
            refine ev_do i180_144 rfl ?_
            obtain ⟨h_14, eh_14, hf⟩ := x_bind hf
            refine sh_ast (tg := 14) i180_145 (Or.inr (Or.inr ⟨rfl, rfl, rfl⟩)) eh_14 ?_
            refine sh_aload (i' := 0) (n := 1) i180_146 (Or.inr ⟨rfl, by decide⟩) rfl ?_
            refine ev_do i180_147 rfl ?_
            refine ev_do i180_148 rfl ?_
            refine ev_do i180_149 rfl ?_
            obtain ⟨_, eu_16, hf⟩ := x_bind hf
            obtain ⟨h_15, eh_15, hf⟩ := x_bind hf
            refine sh_inv (as := [.int (x1 + 1)]) (z := (none, h_15)) i180_150 v180_305 (Or.inl ⟨by decide, rfl⟩) m175 rfl (Nat.le_of_ble_eq_true rfl) eu_16 (fn175_call (by omega) eh_15) ?_
            exact j180_153_ok hd hf
          · replace hf := x_pos (show v_7 = 24 from Decidable.byContradiction (fun h9 => c_8 h9)) hf
            refine sh_aload (i' := 0) (n := 1) i180_119 (Or.inr ⟨rfl, by decide⟩) rfl ?_
            refine ev_do i180_120 rfl ?_
            refine ev_do i180_121 rfl ?_
            obtain ⟨_, eu_10, hf⟩ := x_bind hf
            obtain ⟨h_9, eh_9, hf⟩ := x_bind hf
            refine sh_inv (as := [.int x1, .int 4]) (z := (none, h_9)) i180_122 v180_267 (Or.inl ⟨by decide, rfl⟩) m166 rfl (Nat.le_of_ble_eq_true rfl) eu_10 (fn166_call (by omega) eh_9) ?_
            refine sh_goto (t := 153) i180_125 rfl ?_
            exact j180_153_ok hd hf
        · replace hf := x_neg (show ¬ (x2 / 2) ≤ s0 from c_5) hf
          exact j180_98_ok hd hf
  · replace hf := x_neg (show ¬ v_1 = 0 from c_2) hf
    refine sh_aload (i' := 0) (n := 1) i180_69 (Or.inr ⟨rfl, by decide⟩) rfl ?_
    refine ev_do i180_70 rfl ?_
    refine ev_do i180_71 rfl ?_
    obtain ⟨_, eu_20, hf⟩ := x_bind hf
    obtain ⟨h_19, eh_19, hf⟩ := x_bind hf
    refine sh_inv (as := [.int x1, .int 2]) (z := (none, h_19)) i180_72 v180_267 (Or.inl ⟨by decide, rfl⟩) m166 rfl (Nat.le_of_ble_eq_true rfl) eu_20 (fn166_call (by omega) eh_19) ?_
    refine sh_goto (t := 153) i180_75 rfl ?_
    exact j180_153_ok hd hf
def j180_35  (o0 : Option Nat) (x1 : Int32) (x2 : Int32) (s0 : Int32) (h : xH) : Option xH := (if s0 = 0 then j180_55 o0 x1 x2 s0 0 h else (xgR h o0 11 17).bind fun a_2 => (xcv h o0 11).bind fun _ => (fn174 o0 h).bind fun r_3 => (xaI r_3.2 13 a_2 r_3.1).bind fun v_4 => j180_55 o0 x1 x2 s0 (v_4 + 1) r_3.2)
theorem j180_35_ok {xs : List Int32} {d : Nat} (hd : 8 ≤ d) {u3 : Value} {u4 : Value} {u5 : Value} {o0 : Option Nat} {x1 : Int32} {x2 : Int32} {s0 : Int32} {h : xH} {r : xH} (hu3 : u3.category = 1) (hu4 : u4.category = 1) (hu5 : u5.category = 1) (hf : j180_35 o0 x1 x2 s0 h = some r) : xEv (xTa xs) d 180 (35, [xrv o0, .int x1, .int x2, u3, u4, u5], [.int s0], h) (none, r) := by
  unfold j180_35 at hf
  refine sh_istore (i' := 3) (n := 1) i180_35 (Or.inr ⟨rfl, by decide⟩) (xokst_of (Nat.le_of_ble_eq_true rfl) rfl) ?_
  refine ev_do i180_36 rfl ?_
  refine ev_if (t := 54) i180_37 rfl (fun c_1 => ?_) (fun c_1 => ?_)
  · replace hf := x_pos (show s0 = 0 from c_1) hf
    refine ev_do i180_54 rfl ?_
    exact j180_55_ok hd hu4 hu5 hf
  · replace hf := x_neg (show ¬ s0 = 0 from c_1) hf
    refine sh_aload (i' := 0) (n := 1) i180_40 (Or.inr ⟨rfl, by decide⟩) rfl ?_
    obtain ⟨a_2, ea_2, hf⟩ := x_bind hf
    refine sh_getR i180_41 f180_56 ea_2 ?_
    refine sh_aload (i' := 0) (n := 1) i180_44 (Or.inr ⟨rfl, by decide⟩) rfl ?_
    obtain ⟨_, eu_5, hf⟩ := x_bind hf
    obtain ⟨r_3, er_3, hf⟩ := x_bind hf
    refine sh_inv (as := []) (z := (some (.int r_3.1), r_3.2)) i180_45 v180_274 (Or.inl ⟨by decide, rfl⟩) m174 rfl (by simp [xcat, xrv_cat, xc_i, xc_j, xc_a, xc_f]) eu_5 (fn174_call (by omega) er_3) ?_
    obtain ⟨v_4, ev_4, hf⟩ := x_bind hf
    refine sh_aldI (tg := 13) i180_48 (Or.inl ⟨rfl, rfl⟩) ev_4 ?_
    refine ev_do i180_49 rfl ?_
    refine ev_do i180_50 rfl ?_
    refine sh_goto (t := 55) i180_51 rfl ?_
    exact j180_55_ok hd hu4 hu5 hf
def j180_34  (o0 : Option Nat) (x1 : Int32) (x2 : Int32) (h : xH) : Option xH := j180_35 o0 x1 x2 0 h
theorem j180_34_ok {xs : List Int32} {d : Nat} (hd : 8 ≤ d) {u3 : Value} {u4 : Value} {u5 : Value} {o0 : Option Nat} {x1 : Int32} {x2 : Int32} {h : xH} {r : xH} (hu3 : u3.category = 1) (hu4 : u4.category = 1) (hu5 : u5.category = 1) (hf : j180_34 o0 x1 x2 h = some r) : xEv (xTa xs) d 180 (34, [xrv o0, .int x1, .int x2, u3, u4, u5], [], h) (none, r) := by
  unfold j180_34 at hf
  refine ev_do i180_34 rfl ?_
  exact j180_35_ok hd hu3 hu4 hu5 hf
def fn180 (o0 : Option Nat) (x1 : Int32) (x2 : Int32) (h : xH) : Option xH := (xgR h o0 11 14).bind fun a_1 => (xaI h 13 a_1 40).bind fun v_2 => (if v_2 ≤ 0 then j180_34 o0 x1 x2 h else (xgI h o0 11 36).bind fun v_4 => (if v_4 = 0 then (xgR h o0 11 16).bind fun a_6 => (xcv h o0 11).bind fun _ => (fn174 o0 h).bind fun r_7 => (xaI r_7.2 13 a_6 r_7.1).bind fun v_8 => (if v_8 = 1 then j180_35 o0 x1 x2 1 r_7.2 else j180_34 o0 x1 x2 r_7.2) else j180_34 o0 x1 x2 h))
theorem fn180_call {xs : List Int32} {d : Nat} (hd : 9 ≤ d) {o0 : Option Nat} {x1 : Int32} {x2 : Int32} {h : xH} {r : xH} (hf : fn180 o0 x1 x2 h = some r) : xCall (xTa xs) d 180 [xrv o0, .int x1, .int x2] h (none, r) := by
  obtain ⟨d, rfl⟩ : ∃ d2, d = d2 + 1 := ⟨d - 1, by omega⟩
  replace hd : 8 ≤ d := by omega
  refine call_of2 (fl := [xrv o0, .int x1, .int x2]) (Ls := [xrv o0, .int x1, .int x2, .float 0, .float 0, .float 0]) m180 (by simp [xfl, xrv_cat, xc_i, xc_j, xc_a, xc_f]) (Nat.le_of_ble_eq_true rfl) rfl ?_
  unfold fn180 at hf
  refine sh_aload (i' := 0) (n := 1) i180_0 (Or.inr ⟨rfl, by decide⟩) rfl ?_
  obtain ⟨a_1, ea_1, hf⟩ := x_bind hf
  refine sh_getR i180_1 f180_47 ea_1 ?_
  refine ev_do i180_4 rfl ?_
  obtain ⟨v_2, ev_2, hf⟩ := x_bind hf
  refine sh_aldI (tg := 13) i180_6 (Or.inl ⟨rfl, rfl⟩) ev_2 ?_
  refine ev_if (t := 34) i180_7 rfl (fun c_3 => ?_) (fun c_3 => ?_)
  · replace hf := x_pos (show v_2 ≤ 0 from c_3) hf
    exact j180_34_ok hd rfl rfl rfl hf
  · replace hf := x_neg (show ¬ v_2 ≤ 0 from c_3) hf
    refine sh_aload (i' := 0) (n := 1) i180_10 (Or.inr ⟨rfl, by decide⟩) rfl ?_
    obtain ⟨v_4, ev_4, hf⟩ := x_bind hf
    refine sh_getI i180_11 f180_282 ev_4 ?_
    refine ev_if (t := 34) i180_14 rfl (fun c_5 => ?_) (fun c_5 => ?_)
    · replace hf := x_neg (show ¬ v_4 = 0 from c_5) hf
      exact j180_34_ok hd rfl rfl rfl hf
    · replace hf := x_pos (show v_4 = 0 from Decidable.byContradiction (fun h9 => c_5 h9)) hf
      refine sh_aload (i' := 0) (n := 1) i180_17 (Or.inr ⟨rfl, by decide⟩) rfl ?_
      obtain ⟨a_6, ea_6, hf⟩ := x_bind hf
      refine sh_getR i180_18 f180_53 ea_6 ?_
      refine sh_aload (i' := 0) (n := 1) i180_21 (Or.inr ⟨rfl, by decide⟩) rfl ?_
      obtain ⟨_, eu_10, hf⟩ := x_bind hf
      obtain ⟨r_7, er_7, hf⟩ := x_bind hf
      refine sh_inv (as := []) (z := (some (.int r_7.1), r_7.2)) i180_22 v180_274 (Or.inl ⟨by decide, rfl⟩) m174 rfl (by simp [xcat, xrv_cat, xc_i, xc_j, xc_a, xc_f]) eu_10 (fn174_call (by omega) er_7) ?_
      obtain ⟨v_8, ev_8, hf⟩ := x_bind hf
      refine sh_aldI (tg := 13) i180_25 (Or.inl ⟨rfl, rfl⟩) ev_8 ?_
      refine ev_do i180_26 rfl ?_
      refine ev_icmp (t := 34) i180_27 rfl (fun c_9 => ?_) (fun c_9 => ?_)
      · replace hf := x_neg (show ¬ v_8 = 1 from c_9) hf
        exact j180_34_ok hd rfl rfl rfl hf
      · replace hf := x_pos (show v_8 = 1 from Decidable.byContradiction (fun h9 => c_9 h9)) hf
        refine ev_do i180_30 rfl ?_
        refine sh_goto (t := 35) i180_31 rfl ?_
        exact j180_35_ok hd rfl rfl rfl hf
end
section
def j182_89  (o0 : Option Nat) (x1 : Int32) (x2 : Int32) (x3 : Int32) (x4 : Int32) (h : xH) : Option (Int32 × xH) := (xpF h o0 11 37 .int (.int x3)).bind fun h_1 => (if x4 &&& 1 = x4 then some (x4, h_1) else none)
theorem j182_89_ok {xs : List Int32} {d : Nat} (hd : 3 ≤ d) {u5 : Value} {o0 : Option Nat} {x1 : Int32} {x2 : Int32} {x3 : Int32} {x4 : Int32} {h : xH} {r : (Int32 × xH)} (hu5 : u5.category = 1) (hf : j182_89 o0 x1 x2 x3 x4 h = some r) : xEv (xTa xs) d 182 (89, [xrv o0, .int x1, .int x2, .int x3, .int x4, u5], [], h) (some (.int r.1), r.2) := by
  unfold j182_89 at hf
  refine sh_aload (i' := 0) (n := 1) i182_89 (Or.inr ⟨rfl, by decide⟩) rfl ?_
  refine ev_do i182_90 rfl ?_
  obtain ⟨h_1, eh_1, hf⟩ := x_bind hf
  refine sh_put i182_91 f182_224 (by decide) rfl eh_1 ?_
  refine ev_do i182_94 rfl ?_
  by_cases c_2 : x4 &&& 1 = x4
  · replace hf := x_pos c_2 hf
    obtain rfl := Option.some.inj hf
    exact sh_iret i182_96 m182 rfl (congrArg Value.int c_2)
  · replace hf := x_neg c_2 hf
    cases hf
def j182_87  (o0 : Option Nat) (x1 : Int32) (x2 : Int32) (x3 : Int32) (x4 : Int32) (x5 : Int32) (s0 : Int32) (h : xH) : Option (Int32 × xH) := j182_89 o0 x1 x2 x3 s0 h
theorem j182_87_ok {xs : List Int32} {d : Nat} (hd : 3 ≤ d) {o0 : Option Nat} {x1 : Int32} {x2 : Int32} {x3 : Int32} {x4 : Int32} {x5 : Int32} {s0 : Int32} {h : xH} {r : (Int32 × xH)} (hf : j182_87 o0 x1 x2 x3 x4 x5 s0 h = some r) : xEv (xTa xs) d 182 (87, [xrv o0, .int x1, .int x2, .int x3, .int x4, .int x5], [.int s0], h) (some (.int r.1), r.2) := by
  unfold j182_87 at hf
  refine sh_istore (i' := 4) (n := 2) i182_87 (Or.inl rfl) (xokst_of (Nat.le_of_ble_eq_true rfl) rfl) ?_
  exact j182_89_ok hd rfl hf
def j182_82  (o0 : Option Nat) (x1 : Int32) (x2 : Int32) (x3 : Int32) (x4 : Int32) (x5 : Int32) (h : xH) : Option (Int32 × xH) := j182_87 o0 x1 x2 x3 x4 x5 1 h
theorem j182_82_ok {xs : List Int32} {d : Nat} (hd : 3 ≤ d) {o0 : Option Nat} {x1 : Int32} {x2 : Int32} {x3 : Int32} {x4 : Int32} {x5 : Int32} {h : xH} {r : (Int32 × xH)} (hf : j182_82 o0 x1 x2 x3 x4 x5 h = some r) : xEv (xTa xs) d 182 (82, [xrv o0, .int x1, .int x2, .int x3, .int x4, .int x5], [], h) (some (.int r.1), r.2) := by
  unfold j182_82 at hf
  refine ev_do i182_82 rfl ?_
  refine sh_goto (t := 87) i182_83 rfl ?_
  exact j182_87_ok hd hf
def fn182 (o0 : Option Nat) (x1 : Int32) (x2 : Int32) (h : xH) : Option (Int32 × xH) := (xcv h o0 11).bind fun _ => (fn169 o0 (x1 + 9) h).bind fun r_1 => (xgI r_1.2 o0 11 37).bind fun v_2 => (if v_2 ≤ r_1.1 then (xgI r_1.2 o0 11 37).bind fun v_4 => (if x2 ≤ (v_4 + 1) then j182_89 o0 x1 x2 v_4 1 r_1.2 else (xcv r_1.2 o0 11).bind fun _ => (fn178 o0 (v_4 + 1) x2 r_1.2).bind fun r_6 => (xpF r_6.2 o0 11 37 .int (.int r_6.1)).bind fun h_7 => (xcv h_7 o0 11).bind fun _ => (fn169 o0 (v_4 + 1) h_7).bind fun r_8 => (xgI r_8.2 o0 11 37).bind fun v_9 => (if r_8.1 = v_9 then j182_82 o0 x1 x2 v_4 1 r_8.1 r_8.2 else (xcv r_8.2 o0 11).bind fun _ => (fn167 o0 r_8.1 r_8.2).bind fun r_11 => (if r_11.1 = 64 then j182_82 o0 x1 x2 v_4 1 r_8.1 r_11.2 else (xcv r_11.2 o0 11).bind fun _ => (fn179 o0 r_8.1 r_11.2).bind fun r_13 => (if r_13.1 = 0 then j182_87 o0 x1 x2 v_4 1 r_8.1 0 r_13.2 else j182_82 o0 x1 x2 v_4 1 r_8.1 r_13.2)))) else some (0, r_1.2))
theorem fn182_call {xs : List Int32} {d : Nat} (hd : 4 ≤ d) {o0 : Option Nat} {x1 : Int32} {x2 : Int32} {h : xH} {r : (Int32 × xH)} (hf : fn182 o0 x1 x2 h = some r) : xCall (xTa xs) d 182 [xrv o0, .int x1, .int x2] h (some (.int r.1), r.2) := by
  obtain ⟨d, rfl⟩ : ∃ d2, d = d2 + 1 := ⟨d - 1, by omega⟩
  replace hd : 3 ≤ d := by omega
  refine call_of2 (fl := [xrv o0, .int x1, .int x2]) (Ls := [xrv o0, .int x1, .int x2, .float 0, .float 0, .float 0]) m182 (by simp [xfl, xrv_cat, xc_i, xc_j, xc_a, xc_f]) (Nat.le_of_ble_eq_true rfl) rfl ?_
  unfold fn182 at hf
  refine sh_aload (i' := 0) (n := 1) i182_0 (Or.inr ⟨rfl, by decide⟩) rfl ?_
  refine ev_do i182_1 rfl ?_
  refine ev_do i182_2 rfl ?_
  refine ev_do i182_4 rfl ?_
  obtain ⟨_, eu_19, hf⟩ := x_bind hf
  obtain ⟨r_1, er_1, hf⟩ := x_bind hf
  refine sh_inv (as := [.int (x1 + 9)]) (z := (some (.int r_1.1), r_1.2)) i182_5 v182_255 (Or.inl ⟨by decide, rfl⟩) m169 rfl (Nat.le_of_ble_eq_true rfl) eu_19 (fn169_call (by omega) er_1) ?_
  refine sh_aload (i' := 0) (n := 1) i182_8 (Or.inr ⟨rfl, by decide⟩) rfl ?_
  obtain ⟨v_2, ev_2, hf⟩ := x_bind hf
  refine sh_getI i182_9 f182_224 ev_2 ?_
  refine ev_icmp (t := 17) i182_12 rfl (fun c_3 => ?_) (fun c_3 => ?_)
  · replace hf := x_pos (show v_2 ≤ r_1.1 from c_3) hf
    refine sh_aload (i' := 0) (n := 1) i182_17 (Or.inr ⟨rfl, by decide⟩) rfl ?_
    obtain ⟨v_4, ev_4, hf⟩ := x_bind hf
    refine sh_getI i182_18 f182_224 ev_4 ?_
    refine sh_istore (i' := 3) (n := 1) i182_21 (Or.inr ⟨rfl, by decide⟩) (xokst_of (Nat.le_of_ble_eq_true rfl) rfl) ?_
    refine ev_do i182_22 rfl ?_
    refine sh_istore (i' := 4) (n := 2) i182_23 (Or.inl rfl) (xokst_of (Nat.le_of_ble_eq_true rfl) rfl) ?_
    refine ev_do i182_25 rfl ?_
    refine ev_do i182_26 rfl ?_
    refine ev_do i182_27 rfl ?_
    refine ev_do i182_28 rfl ?_
    refine ev_icmp (t := 89) i182_29 rfl (fun c_5 => ?_) (fun c_5 => ?_)
    · replace hf := x_pos (show x2 ≤ (v_4 + 1) from c_5) hf
      exact j182_89_ok hd rfl hf
    · replace hf := x_neg (show ¬ x2 ≤ (v_4 + 1) from c_5) hf
      refine sh_aload (i' := 0) (n := 1) i182_32 (Or.inr ⟨rfl, by decide⟩) rfl ?_
      refine sh_aload (i' := 0) (n := 1) i182_33 (Or.inr ⟨rfl, by decide⟩) rfl ?_
      refine ev_do i182_34 rfl ?_
      refine ev_do i182_35 rfl ?_
      refine ev_do i182_36 rfl ?_
      refine ev_do i182_37 rfl ?_
      obtain ⟨_, eu_18, hf⟩ := x_bind hf
      obtain ⟨r_6, er_6, hf⟩ := x_bind hf
      refine sh_inv (as := [.int x2, .int (v_4 + 1)]) (z := (some (.int r_6.1), r_6.2)) i182_38 v182_285 (Or.inl ⟨by decide, rfl⟩) m178 rfl (by simp [xcat, xrv_cat, xc_i, xc_j, xc_a, xc_f]) eu_18 (fn178_call (by omega) er_6) ?_
      obtain ⟨h_7, eh_7, hf⟩ := x_bind hf
      refine sh_put i182_41 f182_224 (by decide) rfl eh_7 ?_
      refine sh_aload (i' := 0) (n := 1) i182_44 (Or.inr ⟨rfl, by decide⟩) rfl ?_
      refine ev_do i182_45 rfl ?_
      refine ev_do i182_46 rfl ?_
      refine ev_do i182_47 rfl ?_
      obtain ⟨_, eu_17, hf⟩ := x_bind hf
      obtain ⟨r_8, er_8, hf⟩ := x_bind hf
      refine sh_inv (as := [.int (v_4 + 1)]) (z := (some (.int r_8.1), r_8.2)) i182_48 v182_255 (Or.inl ⟨by decide, rfl⟩) m169 rfl (Nat.le_of_ble_eq_true rfl) eu_17 (fn169_call (by omega) er_8) ?_
      refine sh_istore (i' := 5) (n := 2) i182_51 (Or.inl rfl) (xokst_of (Nat.le_of_ble_eq_true rfl) rfl) ?_
      refine ev_do i182_53 rfl ?_
      refine sh_aload (i' := 0) (n := 1) i182_55 (Or.inr ⟨rfl, by decide⟩) rfl ?_
      obtain ⟨v_9, ev_9, hf⟩ := x_bind hf
      refine sh_getI i182_56 f182_224 ev_9 ?_
      refine ev_icmp (t := 82) i182_59 rfl (fun c_10 => ?_) (fun c_10 => ?_)
      · replace hf := x_pos (show r_8.1 = v_9 from c_10) hf
        exact j182_82_ok hd hf
      · replace hf := x_neg (show ¬ r_8.1 = v_9 from c_10) hf
        refine sh_aload (i' := 0) (n := 1) i182_62 (Or.inr ⟨rfl, by decide⟩) rfl ?_
        refine ev_do i182_63 rfl ?_
        obtain ⟨_, eu_16, hf⟩ := x_bind hf
        obtain ⟨r_11, er_11, hf⟩ := x_bind hf
        refine sh_inv (as := [.int r_8.1]) (z := (some (.int r_11.1), r_11.2)) i182_65 v182_227 (Or.inl ⟨by decide, rfl⟩) m167 rfl (Nat.le_of_ble_eq_true rfl) eu_16 (fn167_call (by omega) er_11) ?_
        refine ev_do i182_68 rfl ?_
        refine ev_icmp (t := 82) i182_70 rfl (fun c_12 => ?_) (fun c_12 => ?_)
        · replace hf := x_pos (show r_11.1 = 64 from c_12) hf
          exact j182_82_ok hd hf
        · replace hf := x_neg (show ¬ r_11.1 = 64 from c_12) hf
          refine sh_aload (i' := 0) (n := 1) i182_73 (Or.inr ⟨rfl, by decide⟩) rfl ?_
          refine ev_do i182_74 rfl ?_
          obtain ⟨_, eu_15, hf⟩ := x_bind hf
          obtain ⟨r_13, er_13, hf⟩ := x_bind hf
          refine sh_inv (as := [.int r_8.1]) (z := (some (.int r_13.1), r_13.2)) i182_76 v182_292 (Or.inl ⟨by decide, rfl⟩) m179 rfl (Nat.le_of_ble_eq_true rfl) eu_15 (fn179_call (by omega) er_13) ?_
          refine ev_if (t := 86) i182_79 rfl (fun c_14 => ?_) (fun c_14 => ?_)
          · replace hf := x_pos (show r_13.1 = 0 from c_14) hf
            refine ev_do i182_86 rfl ?_
            exact j182_87_ok hd hf
          · replace hf := x_neg (show ¬ r_13.1 = 0 from c_14) hf
            exact j182_82_ok hd hf
  · replace hf := x_neg (show ¬ v_2 ≤ r_1.1 from c_3) hf
    refine ev_do i182_15 rfl ?_
    obtain rfl := Option.some.inj hf
    exact sh_iret i182_16 m182 rfl (by decide)
end
