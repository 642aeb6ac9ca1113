section
def j189_64  (o0 : Option Nat) (x1 : Int32) (x2 : Int32) (x3 : Int32) (s0 : Option Nat) (s1 : Int32) (h : xH) : Option (Int32 × xH) := (xpF h s0 11 34 .boolean (.int s1)).bind fun h_1 => (xcv h_1 o0 11).bind fun _ => (fn177 o0 x2 h_1).bind fun h_2 => (xgI h_2 o0 11 31).bind fun v_3 => (xpF h_2 o0 11 33 .int (.int v_3)).bind fun h_4 => (xgI h_4 o0 11 31).bind fun v_5 => (if v_5 ≤ 0 then (xcv h_4 o0 11).bind fun _ => (fn188 o0 x1 x2 h_4).bind fun h_7 => (xgR h_7 o0 11 14).bind fun a_8 => (xaI h_7 13 a_8 x1).bind fun v_9 => some (v_9, h_7) else (xgI h_4 o0 11 32).bind fun v_11 => some ((-10) - v_11, h_4))
theorem j189_64_ok {xs : List Int32} {d : Nat} (hd : 10 ≤ d) {o0 : Option Nat} {x1 : Int32} {x2 : Int32} {x3 : Int32} {s0 : Option Nat} {s1 : Int32} {h : xH} {r : (Int32 × xH)} (hf : j189_64 o0 x1 x2 x3 s0 s1 h = some r) : xEv (xTa xs) d 189 (64, [xrv o0, .int x1, .int x2, .int x3], [.int s1, xrv s0], h) (some (.int r.1), r.2) := by
  unfold j189_64 at hf
  obtain ⟨h_1, eh_1, hf⟩ := x_bind hf
  refine sh_put i189_64 f189_312 (by decide) rfl eh_1 ?_
  refine sh_aload (i' := 0) (n := 1) i189_67 (Or.inr ⟨rfl, by decide⟩) rfl ?_
  refine ev_do i189_68 rfl ?_
  obtain ⟨_, eu_12, hf⟩ := x_bind hf
  obtain ⟨h_2, eh_2, hf⟩ := x_bind hf
  refine sh_inv (as := [.int x2]) (z := (none, h_2)) i189_69 v189_344 (Or.inl ⟨by decide, rfl⟩) m177 rfl (Nat.le_of_ble_eq_true rfl) eu_12 (fn177_call (by omega) eh_2) ?_
  refine sh_aload (i' := 0) (n := 1) i189_72 (Or.inr ⟨rfl, by decide⟩) rfl ?_
  refine sh_aload (i' := 0) (n := 1) i189_73 (Or.inr ⟨rfl, by decide⟩) rfl ?_
  obtain ⟨v_3, ev_3, hf⟩ := x_bind hf
  refine sh_getI i189_74 f189_218 ev_3 ?_
  obtain ⟨h_4, eh_4, hf⟩ := x_bind hf
  refine sh_put i189_77 f189_347 (by decide) rfl eh_4 ?_
  refine sh_aload (i' := 0) (n := 1) i189_80 (Or.inr ⟨rfl, by decide⟩) rfl ?_
  obtain ⟨v_5, ev_5, hf⟩ := x_bind hf
  refine sh_getI i189_81 f189_218 ev_5 ?_
  refine ev_if (t := 95) i189_84 rfl (fun c_6 => ?_) (fun c_6 => ?_)
  · replace hf := x_pos (show v_5 ≤ 0 from c_6) hf
    refine sh_aload (i' := 0) (n := 1) i189_95 (Or.inr ⟨rfl, by decide⟩) rfl ?_
    refine ev_do i189_96 rfl ?_
    refine ev_do i189_97 rfl ?_
    obtain ⟨_, eu_10, hf⟩ := x_bind hf
    obtain ⟨h_7, eh_7, hf⟩ := x_bind hf
    refine sh_inv (as := [.int x2, .int x1]) (z := (none, h_7)) i189_98 v189_350 (Or.inl ⟨by decide, rfl⟩) m188 rfl (Nat.le_of_ble_eq_true rfl) eu_10 (fn188_call (by omega) eh_7) ?_
    refine sh_aload (i' := 0) (n := 1) i189_101 (Or.inr ⟨rfl, by decide⟩) rfl ?_
    obtain ⟨a_8, ea_8, hf⟩ := x_bind hf
    refine sh_getR i189_102 f189_47 ea_8 ?_
    refine ev_do i189_105 rfl ?_
    obtain ⟨v_9, ev_9, hf⟩ := x_bind hf
    refine sh_aldI (tg := 13) i189_106 (Or.inl ⟨rfl, rfl⟩) ev_9 ?_
    obtain rfl := Option.some.inj hf
    exact sh_iret i189_107 m189 rfl rfl
  · replace hf := x_neg (show ¬ v_5 ≤ 0 from c_6) hf
    refine ev_do i189_87 rfl ?_
    refine sh_aload (i' := 0) (n := 1) i189_89 (Or.inr ⟨rfl, by decide⟩) rfl ?_
    obtain ⟨v_11, ev_11, hf⟩ := x_bind hf
    refine sh_getI i189_90 f189_221 ev_11 ?_
    refine ev_do i189_93 rfl ?_
    obtain rfl := Option.some.inj hf
    exact sh_iret i189_94 m189 rfl rfl
def l189_22  : Nat → Option Nat → Int32 → Int32 → Int32 → xH → Option (Int32 × xH)
  | 0 => fun _ _ _ _ _ => none
  | n + 1 => fun o0 x1 x2 x3 h => (if x2 ≤ x3 then (xgR h o0 11 3).bind fun a_2 => (xaI h 14 a_2 x1).bind fun v_3 => (if v_3 = 0 then j189_64 o0 x1 x2 x3 o0 1 h else j189_64 o0 x1 x2 x3 o0 0 h) else (xgR h o0 11 12).bind fun a_5 => (xgR h o0 11 0).bind fun a_6 => (xaI h 13 a_6 x3).bind fun v_7 => (xaS h 13 (fun x => x) a_5 (24000 + x3) v_7).bind fun h_8 => l189_22 n o0 x1 x2 (x3 + 1) h_8)
theorem l189_22_ok {xs : List Int32} {d : Nat} (hd : 10 ≤ d) : ∀ (n : Nat) {o0 : Option Nat} {x1 : Int32} {x2 : Int32} {x3 : Int32} {h : xH} {r : (Int32 × xH)}, l189_22 n o0 x1 x2 x3 h = some r → xEv (xTa xs) d 189 (22, [xrv o0, .int x1, .int x2, .int x3], [], h) (some (.int r.1), r.2) := by
  intro n
  induction n with
  | zero => intros; rename_i hf; cases hf
  | succ n ih =>
    intro o0 x1 x2 x3 h r hf
    replace hf : ((if x2 ≤ x3 then (xgR h o0 11 3).bind fun a_2 => (xaI h 14 a_2 x1).bind fun v_3 => (if v_3 = 0 then j189_64 o0 x1 x2 x3 o0 1 h else j189_64 o0 x1 x2 x3 o0 0 h) else (xgR h o0 11 12).bind fun a_5 => (xgR h o0 11 0).bind fun a_6 => (xaI h 13 a_6 x3).bind fun v_7 => (xaS h 13 (fun x => x) a_5 (24000 + x3) v_7).bind fun h_8 => l189_22 n o0 x1 x2 (x3 + 1) h_8)) = some r := hf
    refine ev_do i189_22 rfl ?_
    refine ev_do i189_23 rfl ?_
    refine ev_icmp (t := 49) i189_24 rfl (fun c_1 => ?_) (fun c_1 => ?_)
    · replace hf := x_pos (show x2 ≤ x3 from c_1) hf
      refine sh_aload (i' := 0) (n := 1) i189_49 (Or.inr ⟨rfl, by decide⟩) rfl ?_
      refine sh_aload (i' := 0) (n := 1) i189_50 (Or.inr ⟨rfl, by decide⟩) rfl ?_
      obtain ⟨a_2, ea_2, hf⟩ := x_bind hf
      refine sh_getR i189_51 f189_13 ea_2 ?_
      refine ev_do i189_54 rfl ?_
      obtain ⟨v_3, ev_3, hf⟩ := x_bind hf
      refine sh_aldI (tg := 14) i189_55 (Or.inr (Or.inr ⟨rfl, rfl⟩)) ev_3 ?_
      refine ev_if (t := 63) i189_56 rfl (fun c_4 => ?_) (fun c_4 => ?_)
      · replace hf := x_neg (show ¬ v_3 = 0 from c_4) hf
        refine ev_do i189_63 rfl ?_
        exact j189_64_ok hd hf
      · replace hf := x_pos (show v_3 = 0 from Decidable.byContradiction (fun h9 => c_4 h9)) hf
        refine ev_do i189_59 rfl ?_
        refine sh_goto (t := 64) i189_60 rfl ?_
        exact j189_64_ok hd hf
    · replace hf := x_neg (show ¬ x2 ≤ x3 from c_1) hf
      refine sh_aload (i' := 0) (n := 1) i189_27 (Or.inr ⟨rfl, by decide⟩) rfl ?_
      obtain ⟨a_5, ea_5, hf⟩ := x_bind hf
      refine sh_getR i189_28 f189_41 ea_5 ?_
      refine ev_do i189_31 rfl ?_
      refine ev_do i189_34 rfl ?_
      refine ev_do i189_35 rfl ?_
      refine sh_aload (i' := 0) (n := 1) i189_36 (Or.inr ⟨rfl, by decide⟩) rfl ?_
      obtain ⟨a_6, ea_6, hf⟩ := x_bind hf
      refine sh_getR i189_37 f189_9 ea_6 ?_
      refine ev_do i189_40 rfl ?_
      obtain ⟨v_7, ev_7, hf⟩ := x_bind hf
      refine sh_aldI (tg := 13) i189_41 (Or.inl ⟨rfl, rfl⟩) ev_7 ?_
      obtain ⟨h_8, eh_8, hf⟩ := x_bind hf
      refine sh_ast (tg := 13) i189_42 (Or.inl ⟨rfl, rfl, rfl⟩) eh_8 ?_
      refine sh_inc (i' := 3) i189_43 rfl (xokst_of (Nat.le_of_ble_eq_true rfl) rfl) rfl ?_
      refine sh_goto (t := 22) i189_46 rfl ?_
      exact ih hf
def fn189 (o0 : Option Nat) (x1 : Int32) (h : xH) : Option (Int32 × xH) := (xgI h o0 11 1).bind fun v_1 => (xpF h o0 11 1 .int (.int 0)).bind fun h_2 => (xcv h_2 o0 11).bind fun _ => (fn148 o0 x1 h_2).bind fun r_3 => (if r_3.1 = 0 then some ((-1), r_3.2) else l189_22 xFuel o0 x1 v_1 0 r_3.2)
theorem fn189_call {xs : List Int32} {d : Nat} (hd : 11 ≤ d) {o0 : Option Nat} {x1 : Int32} {h : xH} {r : (Int32 × xH)} (hf : fn189 o0 x1 h = some r) : xCall (xTa xs) d 189 [xrv o0, .int x1] h (some (.int r.1), r.2) := by
  obtain ⟨d, rfl⟩ : ∃ d2, d = d2 + 1 := ⟨d - 1, by omega⟩
  replace hd : 10 ≤ d := by omega
  refine call_of2 (fl := [xrv o0, .int x1]) (Ls := [xrv o0, .int x1, .float 0, .float 0]) m189 (by simp [xfl, xrv_cat, xc_i, xc_j, xc_a, xc_f]) (Nat.le_of_ble_eq_true rfl) rfl ?_
  unfold fn189 at hf
  refine sh_aload (i' := 0) (n := 1) i189_0 (Or.inr ⟨rfl, by decide⟩) rfl ?_
  obtain ⟨v_1, ev_1, hf⟩ := x_bind hf
  refine sh_getI i189_1 f189_146 ev_1 ?_
  refine sh_istore (i' := 2) (n := 1) i189_4 (Or.inr ⟨rfl, by decide⟩) (xokst_of (Nat.le_of_ble_eq_true rfl) rfl) ?_
  refine sh_aload (i' := 0) (n := 1) i189_5 (Or.inr ⟨rfl, by decide⟩) rfl ?_
  refine ev_do i189_6 rfl ?_
  obtain ⟨h_2, eh_2, hf⟩ := x_bind hf
  refine sh_put i189_7 f189_146 (by decide) rfl eh_2 ?_
  refine sh_aload (i' := 0) (n := 1) i189_10 (Or.inr ⟨rfl, by decide⟩) rfl ?_
  refine ev_do i189_11 rfl ?_
  obtain ⟨_, eu_5, hf⟩ := x_bind hf
  obtain ⟨r_3, er_3, hf⟩ := x_bind hf
  refine sh_inv (as := [.int x1]) (z := (some (.int r_3.1), r_3.2)) i189_12 v189_161 (Or.inl ⟨by decide, rfl⟩) m148 rfl (Nat.le_of_ble_eq_true rfl) eu_5 (fn148_call (by omega) er_3) ?_
  refine ev_if (t := 20) i189_15 rfl (fun c_4 => ?_) (fun c_4 => ?_)
  · replace hf := x_neg (show ¬ r_3.1 = 0 from c_4) hf
    refine ev_do i189_20 rfl ?_
    refine sh_istore (i' := 3) (n := 1) i189_21 (Or.inr ⟨rfl, by decide⟩) (xokst_of (Nat.le_of_ble_eq_true rfl) rfl) ?_
    exact l189_22_ok hd xFuel hf
  · replace hf := x_pos (show r_3.1 = 0 from Decidable.byContradiction (fun h9 => c_4 h9)) hf
    refine ev_do i189_18 rfl ?_
    obtain rfl := Option.some.inj hf
    exact sh_iret i189_19 m189 rfl rfl
end
section
def fn190 (o0 : Option Nat) (h : xH) : Option (Int32 × xH) := (xgI h o0 11 33).bind fun v_1 => some (v_1, h)
theorem fn190_call {xs : List Int32} {d : Nat} (hd : 2 ≤ d) {o0 : Option Nat} {h : xH} {r : (Int32 × xH)} (hf : fn190 o0 h = some r) : xCall (xTa xs) d 190 [xrv o0] h (some (.int r.1), r.2) := by
  obtain ⟨d, rfl⟩ : ∃ d2, d = d2 + 1 := ⟨d - 1, by omega⟩
  replace hd : 1 ≤ d := by omega
  refine call_of2 (fl := [xrv o0]) (Ls := [xrv o0]) m190 (by simp [xfl, xrv_cat, xc_i, xc_j, xc_a, xc_f]) (Nat.le_of_ble_eq_true rfl) rfl ?_
  unfold fn190 at hf
  refine sh_aload (i' := 0) (n := 1) i190_0 (Or.inr ⟨rfl, by decide⟩) rfl ?_
  obtain ⟨v_1, ev_1, hf⟩ := x_bind hf
  refine sh_getI i190_1 f190_347 ev_1 ?_
  obtain rfl := Option.some.inj hf
  exact sh_iret i190_4 m190 rfl rfl
end
section
def fn191 (o0 : Option Nat) (x1 : Int32) (h : xH) : Option (Int32 × xH) := (xcv h o0 11).bind fun _ => (fn148 o0 x1 h).bind fun r_1 => (if r_1.1 = 0 then some ((-1), r_1.2) else (xgR r_1.2 o0 11 13).bind fun a_3 => (xaI r_1.2 13 a_3 x1).bind fun v_4 => (if v_4 = (-1) then some ((-2), r_1.2) else (xgR r_1.2 o0 11 14).bind fun a_6 => (xaI r_1.2 13 a_6 x1).bind fun v_7 => (xgR r_1.2 o0 11 13).bind fun a_8 => (xaS r_1.2 13 (fun x => x) a_8 x1 (-1)).bind fun h_9 => (xgR h_9 o0 11 14).bind fun a_10 => (xaS h_9 13 (fun x => x) a_10 x1 0).bind fun h_11 => (xgR h_11 o0 11 15).bind fun a_12 => (xaS h_11 13 (fun x => x) a_12 x1 0).bind fun h_13 => some (v_7, h_13)))
theorem fn191_call {xs : List Int32} {d : Nat} (hd : 4 ≤ d) {o0 : Option Nat} {x1 : Int32} {h : xH} {r : (Int32 × xH)} (hf : fn191 o0 x1 h = some r) : xCall (xTa xs) d 191 [xrv o0, .int x1] h (some (.int r.1), r.2) := by
  obtain ⟨d, rfl⟩ : ∃ d2, d = d2 + 1 := ⟨d - 1, by omega⟩
  replace hd : 3 ≤ d := by omega
  refine call_of2 (fl := [xrv o0, .int x1]) (Ls := [xrv o0, .int x1, .float 0]) m191 (by simp [xfl, xrv_cat, xc_i, xc_j, xc_a, xc_f]) (Nat.le_of_ble_eq_true rfl) rfl ?_
  unfold fn191 at hf
  refine sh_aload (i' := 0) (n := 1) i191_0 (Or.inr ⟨rfl, by decide⟩) rfl ?_
  refine ev_do i191_1 rfl ?_
  obtain ⟨_, eu_14, hf⟩ := x_bind hf
  obtain ⟨r_1, er_1, hf⟩ := x_bind hf
  refine sh_inv (as := [.int x1]) (z := (some (.int r_1.1), r_1.2)) i191_2 v191_161 (Or.inl ⟨by decide, rfl⟩) m148 rfl (Nat.le_of_ble_eq_true rfl) eu_14 (fn148_call (by omega) er_1) ?_
  refine ev_if (t := 10) i191_5 rfl (fun c_2 => ?_) (fun c_2 => ?_)
  · replace hf := x_neg (show ¬ r_1.1 = 0 from c_2) hf
    refine sh_aload (i' := 0) (n := 1) i191_10 (Or.inr ⟨rfl, by decide⟩) rfl ?_
    obtain ⟨a_3, ea_3, hf⟩ := x_bind hf
    refine sh_getR i191_11 f191_44 ea_3 ?_
    refine ev_do i191_14 rfl ?_
    obtain ⟨v_4, ev_4, hf⟩ := x_bind hf
    refine sh_aldI (tg := 13) i191_15 (Or.inl ⟨rfl, rfl⟩) ev_4 ?_
    refine ev_do i191_16 rfl ?_
    refine ev_icmp (t := 23) i191_17 rfl (fun c_5 => ?_) (fun c_5 => ?_)
    · replace hf := x_neg (show ¬ v_4 = (-1) from c_5) hf
      refine sh_aload (i' := 0) (n := 1) i191_23 (Or.inr ⟨rfl, by decide⟩) rfl ?_
      obtain ⟨a_6, ea_6, hf⟩ := x_bind hf
      refine sh_getR i191_24 f191_47 ea_6 ?_
      refine ev_do i191_27 rfl ?_
      obtain ⟨v_7, ev_7, hf⟩ := x_bind hf
      refine sh_aldI (tg := 13) i191_28 (Or.inl ⟨rfl, rfl⟩) ev_7 ?_
      refine sh_istore (i' := 2) (n := 1) i191_29 (Or.inr ⟨rfl, by decide⟩) (xokst_of (Nat.le_of_ble_eq_true rfl) rfl) ?_
      refine sh_aload (i' := 0) (n := 1) i191_30 (Or.inr ⟨rfl, by decide⟩) rfl ?_
      obtain ⟨a_8, ea_8, hf⟩ := x_bind hf
      refine sh_getR i191_31 f191_44 ea_8 ?_
      refine ev_do i191_34 rfl ?_
      refine ev_do i191_35 rfl ?_
      obtain ⟨h_9, eh_9, hf⟩ := x_bind hf
      refine sh_ast (tg := 13) i191_36 (Or.inl ⟨rfl, rfl, rfl⟩) eh_9 ?_
      refine sh_aload (i' := 0) (n := 1) i191_37 (Or.inr ⟨rfl, by decide⟩) rfl ?_
      obtain ⟨a_10, ea_10, hf⟩ := x_bind hf
      refine sh_getR i191_38 f191_47 ea_10 ?_
      refine ev_do i191_41 rfl ?_
      refine ev_do i191_42 rfl ?_
      obtain ⟨h_11, eh_11, hf⟩ := x_bind hf
      refine sh_ast (tg := 13) i191_43 (Or.inl ⟨rfl, rfl, rfl⟩) eh_11 ?_
      refine sh_aload (i' := 0) (n := 1) i191_44 (Or.inr ⟨rfl, by decide⟩) rfl ?_
      obtain ⟨a_12, ea_12, hf⟩ := x_bind hf
      refine sh_getR i191_45 f191_50 ea_12 ?_
      refine ev_do i191_48 rfl ?_
      refine ev_do i191_49 rfl ?_
      obtain ⟨h_13, eh_13, hf⟩ := x_bind hf
      refine sh_ast (tg := 13) i191_50 (Or.inl ⟨rfl, rfl, rfl⟩) eh_13 ?_
      refine ev_do i191_51 rfl ?_
      obtain rfl := Option.some.inj hf
      exact sh_iret i191_52 m191 rfl rfl
    · replace hf := x_pos (show v_4 = (-1) from Decidable.byContradiction (fun h9 => c_5 h9)) hf
      refine ev_do i191_20 rfl ?_
      obtain rfl := Option.some.inj hf
      exact sh_iret i191_22 m191 rfl rfl
  · replace hf := x_pos (show r_1.1 = 0 from Decidable.byContradiction (fun h9 => c_2 h9)) hf
    refine ev_do i191_8 rfl ?_
    obtain rfl := Option.some.inj hf
    exact sh_iret i191_9 m191 rfl rfl
end
section
def j192_95  (o0 : Option Nat) (x1 : Int32) (x2 : Int32) (s0 : Int32) (h : xH) : Option (Int32 × xH) := some (s0, h)
theorem j192_95_ok {xs : List Int32} {d : Nat} (hd : 5 ≤ d) {o0 : Option Nat} {x1 : Int32} {x2 : Int32} {s0 : Int32} {h : xH} {r : (Int32 × xH)} (hf : j192_95 o0 x1 x2 s0 h = some r) : xEv (xTa xs) d 192 (95, [xrv o0, .int x1, .int x2], [.int s0], h) (some (.int r.1), r.2) := by
  unfold j192_95 at hf
  obtain rfl := Option.some.inj hf
  exact sh_iret i192_95 m192 rfl rfl
def fn192 (o0 : Option Nat) (x1 : Int32) (x2 : Int32) (h : xH) : Option (Int32 × xH) := (xcv h o0 11).bind fun _ => (fn148 o0 x1 h).bind fun r_1 => (if r_1.1 = 0 then some ((-9), r_1.2) else (if x2 = 0 then (xgR r_1.2 o0 11 4).bind fun a_4 => (xaI r_1.2 13 a_4 x1).bind fun v_5 => some (v_5, r_1.2) else (if x2 = 1 then (xgR r_1.2 o0 11 5).bind fun a_7 => (xaI r_1.2 13 a_7 x1).bind fun v_8 => some (v_8, r_1.2) else (if x2 = 2 then (xgR r_1.2 o0 11 9).bind fun a_10 => (xaI r_1.2 13 a_10 x1).bind fun v_11 => some (v_11, r_1.2) else (if x2 = 3 then (xgR r_1.2 o0 11 6).bind fun a_13 => (xaI r_1.2 14 a_13 x1).bind fun v_14 => (if v_14 = 0 then j192_95 o0 x1 x2 0 r_1.2 else j192_95 o0 x1 x2 1 r_1.2) else (if x2 = 4 then (xcv r_1.2 o0 11).bind fun _ => (fn156 o0 x1 r_1.2).bind fun r_17 => some (r_17.1, r_17.2) else (if x2 = 5 then (xcv r_1.2 o0 11).bind fun _ => (fn160 o0 x1 r_1.2).bind fun r_20 => some (r_20.1, r_20.2) else (if x2 = 6 then (xgR r_1.2 o0 11 14).bind fun a_23 => (xaI r_1.2 13 a_23 x1).bind fun v_24 => some (v_24, r_1.2) else (if x2 = 7 then (xgR r_1.2 o0 11 15).bind fun a_26 => (xaI r_1.2 13 a_26 x1).bind fun v_27 => some (v_27, r_1.2) else some ((-9), r_1.2))))))))))
theorem fn192_call {xs : List Int32} {d : Nat} (hd : 6 ≤ d) {o0 : Option Nat} {x1 : Int32} {x2 : Int32} {h : xH} {r : (Int32 × xH)} (hf : fn192 o0 x1 x2 h = some r) : xCall (xTa xs) d 192 [xrv o0, .int x1, .int x2] h (some (.int r.1), r.2) := by
  obtain ⟨d, rfl⟩ : ∃ d2, d = d2 + 1 := ⟨d - 1, by omega⟩
  replace hd : 5 ≤ d := by omega
  refine call_of2 (fl := [xrv o0, .int x1, .int x2]) (Ls := [xrv o0, .int x1, .int x2]) m192 (by simp [xfl, xrv_cat, xc_i, xc_j, xc_a, xc_f]) (Nat.le_of_ble_eq_true rfl) rfl ?_
  unfold fn192 at hf
  refine sh_aload (i' := 0) (n := 1) i192_0 (Or.inr ⟨rfl, by decide⟩) rfl ?_
  refine ev_do i192_1 rfl ?_
  obtain ⟨_, eu_28, hf⟩ := x_bind hf
  obtain ⟨r_1, er_1, hf⟩ := x_bind hf
  refine sh_inv (as := [.int x1]) (z := (some (.int r_1.1), r_1.2)) i192_2 v192_161 (Or.inl ⟨by decide, rfl⟩) m148 rfl (Nat.le_of_ble_eq_true rfl) eu_28 (fn148_call (by omega) er_1) ?_
  refine ev_if (t := 11) i192_5 rfl (fun c_2 => ?_) (fun c_2 => ?_)
  · replace hf := x_neg (show ¬ r_1.1 = 0 from c_2) hf
    refine ev_do i192_11 rfl ?_
    by_cases c_3 : x2 = 0
    · replace hf := x_pos c_3 hf
      refine sh_tswC (c := 0) (t := 60) i192_12 (show (x2).toInt = 0 by rw [c_3]; rfl) (by decide) (by decide) rfl rfl ?_
      refine sh_aload (i' := 0) (n := 1) i192_60 (Or.inr ⟨rfl, by decide⟩) rfl ?_
      obtain ⟨a_4, ea_4, hf⟩ := x_bind hf
      refine sh_getR i192_61 f192_17 ea_4 ?_
      refine ev_do i192_64 rfl ?_
      obtain ⟨v_5, ev_5, hf⟩ := x_bind hf
      refine sh_aldI (tg := 13) i192_65 (Or.inl ⟨rfl, rfl⟩) ev_5 ?_
      obtain rfl := Option.some.inj hf
      exact sh_iret i192_66 m192 rfl rfl
    · replace hf := x_neg c_3 hf
      by_cases c_6 : x2 = 1
      · replace hf := x_pos c_6 hf
        refine sh_tswC (c := 1) (t := 67) i192_12 (show (x2).toInt = 1 by rw [c_6]; rfl) (by decide) (by decide) rfl rfl ?_
        refine sh_aload (i' := 0) (n := 1) i192_67 (Or.inr ⟨rfl, by decide⟩) rfl ?_
        obtain ⟨a_7, ea_7, hf⟩ := x_bind hf
        refine sh_getR i192_68 f192_20 ea_7 ?_
        refine ev_do i192_71 rfl ?_
        obtain ⟨v_8, ev_8, hf⟩ := x_bind hf
        refine sh_aldI (tg := 13) i192_72 (Or.inl ⟨rfl, rfl⟩) ev_8 ?_
        obtain rfl := Option.some.inj hf
        exact sh_iret i192_73 m192 rfl rfl
      · replace hf := x_neg c_6 hf
        by_cases c_9 : x2 = 2
        · replace hf := x_pos c_9 hf
          refine sh_tswC (c := 2) (t := 74) i192_12 (show (x2).toInt = 2 by rw [c_9]; rfl) (by decide) (by decide) rfl rfl ?_
          refine sh_aload (i' := 0) (n := 1) i192_74 (Or.inr ⟨rfl, by decide⟩) rfl ?_
          obtain ⟨a_10, ea_10, hf⟩ := x_bind hf
          refine sh_getR i192_75 f192_32 ea_10 ?_
          refine ev_do i192_78 rfl ?_
          obtain ⟨v_11, ev_11, hf⟩ := x_bind hf
          refine sh_aldI (tg := 13) i192_79 (Or.inl ⟨rfl, rfl⟩) ev_11 ?_
          obtain rfl := Option.some.inj hf
          exact sh_iret i192_80 m192 rfl rfl
        · replace hf := x_neg c_9 hf
          by_cases c_12 : x2 = 3
          · replace hf := x_pos c_12 hf
            refine sh_tswC (c := 3) (t := 81) i192_12 (show (x2).toInt = 3 by rw [c_12]; rfl) (by decide) (by decide) rfl rfl ?_
            refine sh_aload (i' := 0) (n := 1) i192_81 (Or.inr ⟨rfl, by decide⟩) rfl ?_
            obtain ⟨a_13, ea_13, hf⟩ := x_bind hf
            refine sh_getR i192_82 f192_23 ea_13 ?_
            refine ev_do i192_85 rfl ?_
            obtain ⟨v_14, ev_14, hf⟩ := x_bind hf
            refine sh_aldI (tg := 14) i192_86 (Or.inr (Or.inr ⟨rfl, rfl⟩)) ev_14 ?_
            refine ev_if (t := 94) i192_87 rfl (fun c_15 => ?_) (fun c_15 => ?_)
            · replace hf := x_pos (show v_14 = 0 from c_15) hf
              refine ev_do i192_94 rfl ?_
              exact j192_95_ok hd hf
            · replace hf := x_neg (show ¬ v_14 = 0 from c_15) hf
              refine ev_do i192_90 rfl ?_
              refine sh_goto (t := 95) i192_91 rfl ?_
              exact j192_95_ok hd hf
          · replace hf := x_neg c_12 hf
            by_cases c_16 : x2 = 4
            · replace hf := x_pos c_16 hf
              refine sh_tswC (c := 4) (t := 96) i192_12 (show (x2).toInt = 4 by rw [c_16]; rfl) (by decide) (by decide) rfl rfl ?_
              refine sh_aload (i' := 0) (n := 1) i192_96 (Or.inr ⟨rfl, by decide⟩) rfl ?_
              refine ev_do i192_97 rfl ?_
              obtain ⟨_, eu_18, hf⟩ := x_bind hf
              obtain ⟨r_17, er_17, hf⟩ := x_bind hf
              refine sh_inv (as := [.int x1]) (z := (some (.int r_17.1), r_17.2)) i192_98 v192_198 (Or.inl ⟨by decide, rfl⟩) m156 rfl (Nat.le_of_ble_eq_true rfl) eu_18 (fn156_call (by omega) er_17) ?_
              obtain rfl := Option.some.inj hf
              exact sh_iret i192_101 m192 rfl rfl
            · replace hf := x_neg c_16 hf
              by_cases c_19 : x2 = 5
              · replace hf := x_pos c_19 hf
                refine sh_tswC (c := 5) (t := 102) i192_12 (show (x2).toInt = 5 by rw [c_19]; rfl) (by decide) (by decide) rfl rfl ?_
                refine sh_aload (i' := 0) (n := 1) i192_102 (Or.inr ⟨rfl, by decide⟩) rfl ?_
                refine ev_do i192_103 rfl ?_
                obtain ⟨_, eu_21, hf⟩ := x_bind hf
                obtain ⟨r_20, er_20, hf⟩ := x_bind hf
                refine sh_inv (as := [.int x1]) (z := (some (.int r_20.1), r_20.2)) i192_104 v192_353 (Or.inl ⟨by decide, rfl⟩) m160 rfl (Nat.le_of_ble_eq_true rfl) eu_21 (fn160_call (by omega) er_20) ?_
                obtain rfl := Option.some.inj hf
                exact sh_iret i192_107 m192 rfl rfl
              · replace hf := x_neg c_19 hf
                by_cases c_22 : x2 = 6
                · replace hf := x_pos c_22 hf
                  refine sh_tswC (c := 6) (t := 108) i192_12 (show (x2).toInt = 6 by rw [c_22]; rfl) (by decide) (by decide) rfl rfl ?_
                  refine sh_aload (i' := 0) (n := 1) i192_108 (Or.inr ⟨rfl, by decide⟩) rfl ?_
                  obtain ⟨a_23, ea_23, hf⟩ := x_bind hf
                  refine sh_getR i192_109 f192_47 ea_23 ?_
                  refine ev_do i192_112 rfl ?_
                  obtain ⟨v_24, ev_24, hf⟩ := x_bind hf
                  refine sh_aldI (tg := 13) i192_113 (Or.inl ⟨rfl, rfl⟩) ev_24 ?_
                  obtain rfl := Option.some.inj hf
                  exact sh_iret i192_114 m192 rfl rfl
                · replace hf := x_neg c_22 hf
                  by_cases c_25 : x2 = 7
                  · replace hf := x_pos c_25 hf
                    refine sh_tswC (c := 7) (t := 115) i192_12 (show (x2).toInt = 7 by rw [c_25]; rfl) (by decide) (by decide) rfl rfl ?_
                    refine sh_aload (i' := 0) (n := 1) i192_115 (Or.inr ⟨rfl, by decide⟩) rfl ?_
                    obtain ⟨a_26, ea_26, hf⟩ := x_bind hf
                    refine sh_getR i192_116 f192_50 ea_26 ?_
                    refine ev_do i192_119 rfl ?_
                    obtain ⟨v_27, ev_27, hf⟩ := x_bind hf
                    refine sh_aldI (tg := 13) i192_120 (Or.inl ⟨rfl, rfl⟩) ev_27 ?_
                    obtain rfl := Option.some.inj hf
                    exact sh_iret i192_121 m192 rfl rfl
                  · replace hf := x_neg c_25 hf
                    have nc_3 : (x2).toInt ≠ 0 := fun h9 => c_3 (Int32.toInt_inj.mp h9)
                    have nc_6 : (x2).toInt ≠ 1 := fun h9 => c_6 (Int32.toInt_inj.mp h9)
                    have nc_9 : (x2).toInt ≠ 2 := fun h9 => c_9 (Int32.toInt_inj.mp h9)
                    have nc_12 : (x2).toInt ≠ 3 := fun h9 => c_12 (Int32.toInt_inj.mp h9)
                    have nc_16 : (x2).toInt ≠ 4 := fun h9 => c_16 (Int32.toInt_inj.mp h9)
                    have nc_19 : (x2).toInt ≠ 5 := fun h9 => c_19 (Int32.toInt_inj.mp h9)
                    have nc_22 : (x2).toInt ≠ 6 := fun h9 => c_22 (Int32.toInt_inj.mp h9)
                    have nc_25 : (x2).toInt ≠ 7 := fun h9 => c_25 (Int32.toInt_inj.mp h9)
                    refine sh_tswD (t := 122) i192_12 (show (x2).toInt < 0 ∨ 7 < (x2).toInt by omega) rfl ?_
                    refine ev_do i192_122 rfl ?_
                    obtain rfl := Option.some.inj hf
                    exact sh_iret i192_124 m192 rfl rfl
  · replace hf := x_pos (show r_1.1 = 0 from Decidable.byContradiction (fun h9 => c_2 h9)) hf
    refine ev_do i192_8 rfl ?_
    obtain rfl := Option.some.inj hf
    exact sh_iret i192_10 m192 rfl rfl
end
section
def j193_95  (o0 : Option Nat) (x1 : Int32) (x2 : Int32) (x3 : Int32) (x4 : Int32) (s0 : Int32) (h : xH) : Option (Int32 × xH) := some (s0, h)
theorem j193_95_ok {xs : List Int32} {d : Nat} (hd : 3 ≤ d) {o0 : Option Nat} {x1 : Int32} {x2 : Int32} {x3 : Int32} {x4 : Int32} {s0 : Int32} {h : xH} {r : (Int32 × xH)} (hf : j193_95 o0 x1 x2 x3 x4 s0 h = some r) : xEv (xTa xs) d 193 (95, [xrv o0, .int x1, .int x2, .int x3, .int x4], [.int s0], h) (some (.int r.1), r.2) := by
  unfold j193_95 at hf
  obtain rfl := Option.some.inj hf
  exact sh_iret i193_95 m193 rfl rfl
def j193_33  (o0 : Option Nat) (x1 : Int32) (x2 : Int32) (x3 : Int32) (h : xH) : Option (Int32 × xH) := some ((-9), h)
theorem j193_33_ok {xs : List Int32} {d : Nat} (hd : 3 ≤ d) {u4 : Value} {o0 : Option Nat} {x1 : Int32} {x2 : Int32} {x3 : Int32} {h : xH} {r : (Int32 × xH)} (hu4 : u4.category = 1) (hf : j193_33 o0 x1 x2 x3 h = some r) : xEv (xTa xs) d 193 (33, [xrv o0, .int x1, .int x2, .int x3, u4], [], h) (some (.int r.1), r.2) := by
  unfold j193_33 at hf
  refine ev_do i193_33 rfl ?_
  obtain rfl := Option.some.inj hf
  exact sh_iret i193_35 m193 rfl rfl
def fn193 (o0 : Option Nat) (x1 : Int32) (x2 : Int32) (x3 : Int32) (h : xH) : Option (Int32 × xH) := (xcv h o0 11).bind fun _ => (fn148 o0 x1 h).bind fun r_1 => (if r_1.1 = 0 then j193_33 o0 x1 x2 x3 r_1.2 else (xgR r_1.2 o0 11 14).bind fun a_3 => (xaI r_1.2 13 a_3 x1).bind fun v_4 => (fn141 x2 0 (v_4 - 1) r_1.2).bind fun r_5 => (if r_5.1 = 0 then j193_33 o0 x1 x2 x3 r_5.2 else (fn141 x3 0 3 r_5.2).bind fun r_7 => (if r_7.1 = 0 then j193_33 o0 x1 x2 x3 r_7.2 else (if x3 = 0 then (xgR r_7.2 o0 11 16).bind fun a_10 => (xaI r_7.2 13 a_10 ((24 * x1) + x2)).bind fun v_11 => j193_95 o0 x1 x2 x3 ((24 * x1) + x2) v_11 r_7.2 else (if x3 = 1 then (xgR r_7.2 o0 11 17).bind fun a_13 => (xaI r_7.2 13 a_13 ((24 * x1) + x2)).bind fun v_14 => j193_95 o0 x1 x2 x3 ((24 * x1) + x2) v_14 r_7.2 else (if x3 = 2 then (xgR r_7.2 o0 11 19).bind fun a_16 => (xaI r_7.2 13 a_16 ((24 * x1) + x2)).bind fun v_17 => j193_95 o0 x1 x2 x3 ((24 * x1) + x2) v_17 r_7.2 else (xgR r_7.2 o0 11 20).bind fun a_18 => (xaI r_7.2 13 a_18 ((24 * x1) + x2)).bind fun v_19 => j193_95 o0 x1 x2 x3 ((24 * x1) + x2) v_19 r_7.2))))))
theorem fn193_call {xs : List Int32} {d : Nat} (hd : 4 ≤ d) {o0 : Option Nat} {x1 : Int32} {x2 : Int32} {x3 : Int32} {h : xH} {r : (Int32 × xH)} (hf : fn193 o0 x1 x2 x3 h = some r) : xCall (xTa xs) d 193 [xrv o0, .int x1, .int x2, .int x3] h (some (.int r.1), r.2) := by
  obtain ⟨d, rfl⟩ : ∃ d2, d = d2 + 1 := ⟨d - 1, by omega⟩
  replace hd : 3 ≤ d := by omega
  refine call_of2 (fl := [xrv o0, .int x1, .int x2, .int x3]) (Ls := [xrv o0, .int x1, .int x2, .int x3, .float 0]) m193 (by simp [xfl, xrv_cat, xc_i, xc_j, xc_a, xc_f]) (Nat.le_of_ble_eq_true rfl) rfl ?_
  unfold fn193 at hf
  refine sh_aload (i' := 0) (n := 1) i193_0 (Or.inr ⟨rfl, by decide⟩) rfl ?_
  refine ev_do i193_1 rfl ?_
  obtain ⟨_, eu_20, hf⟩ := x_bind hf
  obtain ⟨r_1, er_1, hf⟩ := x_bind hf
  refine sh_inv (as := [.int x1]) (z := (some (.int r_1.1), r_1.2)) i193_2 v193_161 (Or.inl ⟨by decide, rfl⟩) m148 rfl (Nat.le_of_ble_eq_true rfl) eu_20 (fn148_call (by omega) er_1) ?_
  refine ev_if (t := 33) i193_5 rfl (fun c_2 => ?_) (fun c_2 => ?_)
  · replace hf := x_pos (show r_1.1 = 0 from c_2) hf
    exact j193_33_ok hd rfl hf
  · replace hf := x_neg (show ¬ r_1.1 = 0 from c_2) hf
    refine ev_do i193_8 rfl ?_
    refine ev_do i193_9 rfl ?_
    refine sh_aload (i' := 0) (n := 1) i193_10 (Or.inr ⟨rfl, by decide⟩) rfl ?_
    obtain ⟨a_3, ea_3, hf⟩ := x_bind hf
    refine sh_getR i193_11 f193_47 ea_3 ?_
    refine ev_do i193_14 rfl ?_
    obtain ⟨v_4, ev_4, hf⟩ := x_bind hf
    refine sh_aldI (tg := 13) i193_15 (Or.inl ⟨rfl, rfl⟩) ev_4 ?_
    refine ev_do i193_16 rfl ?_
    refine ev_do i193_17 rfl ?_
    obtain ⟨r_5, er_5, hf⟩ := x_bind hf
    refine ev_sta (as := [.int (v_4 - 1), .int 0, .int x2]) (z := (some (.int r_5.1), r_5.2)) i193_18 v193_154 (Or.inl rfl) m141 rfl (Nat.le_of_ble_eq_true rfl) (fn141_call (by omega) er_5) ?_
    refine ev_if (t := 33) i193_21 rfl (fun c_6 => ?_) (fun c_6 => ?_)
    · replace hf := x_pos (show r_5.1 = 0 from c_6) hf
      exact j193_33_ok hd rfl hf
    · replace hf := x_neg (show ¬ r_5.1 = 0 from c_6) hf
      refine ev_do i193_24 rfl ?_
      refine ev_do i193_25 rfl ?_
      refine ev_do i193_26 rfl ?_
      obtain ⟨r_7, er_7, hf⟩ := x_bind hf
      refine ev_sta (as := [.int 3, .int 0, .int x3]) (z := (some (.int r_7.1), r_7.2)) i193_27 v193_154 (Or.inl rfl) m141 rfl (Nat.le_of_ble_eq_true rfl) (fn141_call (by omega) er_7) ?_
      refine ev_if (t := 36) i193_30 rfl (fun c_8 => ?_) (fun c_8 => ?_)
      · replace hf := x_neg (show ¬ r_7.1 = 0 from c_8) hf
        refine ev_do i193_36 rfl ?_
        refine ev_do i193_38 rfl ?_
        refine ev_do i193_39 rfl ?_
        refine ev_do i193_40 rfl ?_
        refine ev_do i193_41 rfl ?_
        refine sh_istore (i' := 4) (n := 2) i193_42 (Or.inl rfl) (xokst_of (Nat.le_of_ble_eq_true rfl) rfl) ?_
        refine ev_do i193_44 rfl ?_
        refine ev_if (t := 58) i193_45 rfl (fun c_9 => ?_) (fun c_9 => ?_)
        · replace hf := x_neg (show ¬ x3 = 0 from c_9) hf
          refine ev_do i193_58 rfl ?_
          refine ev_do i193_59 rfl ?_
          refine ev_icmp (t := 73) i193_60 rfl (fun c_12 => ?_) (fun c_12 => ?_)
          · replace hf := x_neg (show ¬ x3 = 1 from c_12) hf
            refine ev_do i193_73 rfl ?_
            refine ev_do i193_74 rfl ?_
            refine ev_icmp (t := 88) i193_75 rfl (fun c_15 => ?_) (fun c_15 => ?_)
            · replace hf := x_neg (show ¬ x3 = 2 from c_15) hf
              refine sh_aload (i' := 0) (n := 1) i193_88 (Or.inr ⟨rfl, by decide⟩) rfl ?_
              obtain ⟨a_18, ea_18, hf⟩ := x_bind hf
              refine sh_getR i193_89 f193_65 ea_18 ?_
              refine ev_do i193_92 rfl ?_
              obtain ⟨v_19, ev_19, hf⟩ := x_bind hf
              refine sh_aldI (tg := 13) i193_94 (Or.inl ⟨rfl, rfl⟩) ev_19 ?_
              exact j193_95_ok hd hf
            · replace hf := x_pos (show x3 = 2 from Decidable.byContradiction (fun h9 => c_15 h9)) hf
              refine sh_aload (i' := 0) (n := 1) i193_78 (Or.inr ⟨rfl, by decide⟩) rfl ?_
              obtain ⟨a_16, ea_16, hf⟩ := x_bind hf
              refine sh_getR i193_79 f193_62 ea_16 ?_
              refine ev_do i193_82 rfl ?_
              obtain ⟨v_17, ev_17, hf⟩ := x_bind hf
              refine sh_aldI (tg := 13) i193_84 (Or.inl ⟨rfl, rfl⟩) ev_17 ?_
              refine sh_goto (t := 95) i193_85 rfl ?_
              exact j193_95_ok hd hf
          · replace hf := x_pos (show x3 = 1 from Decidable.byContradiction (fun h9 => c_12 h9)) hf
            refine sh_aload (i' := 0) (n := 1) i193_63 (Or.inr ⟨rfl, by decide⟩) rfl ?_
            obtain ⟨a_13, ea_13, hf⟩ := x_bind hf
            refine sh_getR i193_64 f193_56 ea_13 ?_
            refine ev_do i193_67 rfl ?_
            obtain ⟨v_14, ev_14, hf⟩ := x_bind hf
            refine sh_aldI (tg := 13) i193_69 (Or.inl ⟨rfl, rfl⟩) ev_14 ?_
            refine sh_goto (t := 95) i193_70 rfl ?_
            exact j193_95_ok hd hf
        · replace hf := x_pos (show x3 = 0 from Decidable.byContradiction (fun h9 => c_9 h9)) hf
          refine sh_aload (i' := 0) (n := 1) i193_48 (Or.inr ⟨rfl, by decide⟩) rfl ?_
          obtain ⟨a_10, ea_10, hf⟩ := x_bind hf
          refine sh_getR i193_49 f193_53 ea_10 ?_
          refine ev_do i193_52 rfl ?_
          obtain ⟨v_11, ev_11, hf⟩ := x_bind hf
          refine sh_aldI (tg := 13) i193_54 (Or.inl ⟨rfl, rfl⟩) ev_11 ?_
          refine sh_goto (t := 95) i193_55 rfl ?_
          exact j193_95_ok hd hf
      · replace hf := x_pos (show r_7.1 = 0 from Decidable.byContradiction (fun h9 => c_8 h9)) hf
        exact j193_33_ok hd rfl hf
end
section
def j194_160  (o0 : Option Nat) (x1 : Int32) (x2 : Int32) (x3 : Int32) (x4 : Int32) (s0 : Int32) (h : xH) : Option (Int32 × xH) := some (s0, h)
theorem j194_160_ok {xs : List Int32} {d : Nat} (hd : 5 ≤ d) {o0 : Option Nat} {x1 : Int32} {x2 : Int32} {x3 : Int32} {x4 : Int32} {s0 : Int32} {h : xH} {r : (Int32 × xH)} (hf : j194_160 o0 x1 x2 x3 x4 s0 h = some r) : xEv (xTa xs) d 194 (160, [xrv o0, .int x1, .int x2, .int x3, .int x4], [.int s0], h) (some (.int r.1), r.2) := by
  unfold j194_160 at hf
  obtain rfl := Option.some.inj hf
  exact sh_iret i194_160 m194 rfl rfl
def j194_115  (o0 : Option Nat) (x1 : Int32) (x2 : Int32) (x3 : Int32) (x4 : Int32) (s0 : Int32) (h : xH) : Option (Int32 × xH) := some (s0, h)
theorem j194_115_ok {xs : List Int32} {d : Nat} (hd : 5 ≤ d) {o0 : Option Nat} {x1 : Int32} {x2 : Int32} {x3 : Int32} {x4 : Int32} {s0 : Int32} {h : xH} {r : (Int32 × xH)} (hf : j194_115 o0 x1 x2 x3 x4 s0 h = some r) : xEv (xTa xs) d 194 (115, [xrv o0, .int x1, .int x2, .int x3, .int x4], [.int s0], h) (some (.int r.1), r.2) := by
  unfold j194_115 at hf
  obtain rfl := Option.some.inj hf
  exact sh_iret i194_115 m194 rfl rfl
def j194_33  (o0 : Option Nat) (x1 : Int32) (x2 : Int32) (x3 : Int32) (h : xH) : Option (Int32 × xH) := some ((-9), h)
theorem j194_33_ok {xs : List Int32} {d : Nat} (hd : 5 ≤ d) {u4 : Value} {o0 : Option Nat} {x1 : Int32} {x2 : Int32} {x3 : Int32} {h : xH} {r : (Int32 × xH)} (hu4 : u4.category = 1) (hf : j194_33 o0 x1 x2 x3 h = some r) : xEv (xTa xs) d 194 (33, [xrv o0, .int x1, .int x2, .int x3, u4], [], h) (some (.int r.1), r.2) := by
  unfold j194_33 at hf
  refine ev_do i194_33 rfl ?_
  obtain rfl := Option.some.inj hf
  exact sh_iret i194_35 m194 rfl rfl
def fn194 (o0 : Option Nat) (x1 : Int32) (x2 : Int32) (x3 : Int32) (h : xH) : Option (Int32 × xH) := (xcv h o0 11).bind fun _ => (fn148 o0 x1 h).bind fun r_1 => (if r_1.1 = 0 then j194_33 o0 x1 x2 x3 r_1.2 else (xgR r_1.2 o0 11 15).bind fun a_3 => (xaI r_1.2 13 a_3 x1).bind fun v_4 => (fn141 x2 0 (v_4 - 1) r_1.2).bind fun r_5 => (if r_5.1 = 0 then j194_33 o0 x1 x2 x3 r_5.2 else (fn141 x3 0 4 r_5.2).bind fun r_7 => (if r_7.1 = 0 then j194_33 o0 x1 x2 x3 r_7.2 else (if x3 = 0 then (xgR r_7.2 o0 11 24).bind fun a_10 => (xaI r_7.2 13 a_10 ((120 * x1) + x2)).bind fun v_11 => some (v_11, r_7.2) else (if x3 = 1 then (xgR r_7.2 o0 11 25).bind fun a_13 => (xaI r_7.2 13 a_13 ((120 * x1) + x2)).bind fun v_14 => some (v_14, r_7.2) else (if x3 = 2 then (xgR r_7.2 o0 11 27).bind fun a_16 => (xaI r_7.2 13 a_16 ((120 * x1) + x2)).bind fun v_17 => some (v_17, r_7.2) else (if x3 = 3 then (xgR r_7.2 o0 11 28).bind fun a_19 => (xaI r_7.2 14 a_19 ((120 * x1) + x2)).bind fun v_20 => (if v_20 = 0 then j194_115 o0 x1 x2 x3 ((120 * x1) + x2) 0 r_7.2 else j194_115 o0 x1 x2 x3 ((120 * x1) + x2) 1 r_7.2) else (xgR r_7.2 o0 11 24).bind fun a_22 => (xaI r_7.2 13 a_22 ((120 * x1) + x2)).bind fun v_23 => (if v_23 = 2 then (xgR r_7.2 o0 11 12).bind fun a_25 => (xgR r_7.2 o0 11 29).bind fun a_26 => (xaI r_7.2 13 a_26 ((120 * x1) + x2)).bind fun v_27 => (xgR r_7.2 o0 11 30).bind fun a_28 => (xaI r_7.2 13 a_28 ((120 * x1) + x2)).bind fun v_29 => (xcv r_7.2 o0 11).bind fun _ => (fn164 o0 x1 a_25 ((600 * x1) + v_27) v_29 r_7.2).bind fun r_30 => j194_160 o0 x1 x2 x3 ((120 * x1) + x2) r_30.1 r_30.2 else j194_160 o0 x1 x2 x3 ((120 * x1) + x2) (-1) r_7.2))))))))
theorem fn194_call {xs : List Int32} {d : Nat} (hd : 6 ≤ d) {o0 : Option Nat} {x1 : Int32} {x2 : Int32} {x3 : Int32} {h : xH} {r : (Int32 × xH)} (hf : fn194 o0 x1 x2 x3 h = some r) : xCall (xTa xs) d 194 [xrv o0, .int x1, .int x2, .int x3] h (some (.int r.1), r.2) := by
  obtain ⟨d, rfl⟩ : ∃ d2, d = d2 + 1 := ⟨d - 1, by omega⟩
  replace hd : 5 ≤ d := by omega
  refine call_of2 (fl := [xrv o0, .int x1, .int x2, .int x3]) (Ls := [xrv o0, .int x1, .int x2, .int x3, .float 0]) m194 (by simp [xfl, xrv_cat, xc_i, xc_j, xc_a, xc_f]) (Nat.le_of_ble_eq_true rfl) rfl ?_
  unfold fn194 at hf
  refine sh_aload (i' := 0) (n := 1) i194_0 (Or.inr ⟨rfl, by decide⟩) rfl ?_
  refine ev_do i194_1 rfl ?_
  obtain ⟨_, eu_32, hf⟩ := x_bind hf
  obtain ⟨r_1, er_1, hf⟩ := x_bind hf
  refine sh_inv (as := [.int x1]) (z := (some (.int r_1.1), r_1.2)) i194_2 v194_161 (Or.inl ⟨by decide, rfl⟩) m148 rfl (Nat.le_of_ble_eq_true rfl) eu_32 (fn148_call (by omega) er_1) ?_
  refine ev_if (t := 33) i194_5 rfl (fun c_2 => ?_) (fun c_2 => ?_)
  · replace hf := x_pos (show r_1.1 = 0 from c_2) hf
    exact j194_33_ok hd rfl hf
  · replace hf := x_neg (show ¬ r_1.1 = 0 from c_2) hf
    refine ev_do i194_8 rfl ?_
    refine ev_do i194_9 rfl ?_
    refine sh_aload (i' := 0) (n := 1) i194_10 (Or.inr ⟨rfl, by decide⟩) rfl ?_
    obtain ⟨a_3, ea_3, hf⟩ := x_bind hf
    refine sh_getR i194_11 f194_50 ea_3 ?_
    refine ev_do i194_14 rfl ?_
    obtain ⟨v_4, ev_4, hf⟩ := x_bind hf
    refine sh_aldI (tg := 13) i194_15 (Or.inl ⟨rfl, rfl⟩) ev_4 ?_
    refine ev_do i194_16 rfl ?_
    refine ev_do i194_17 rfl ?_
    obtain ⟨r_5, er_5, hf⟩ := x_bind hf
    refine ev_sta (as := [.int (v_4 - 1), .int 0, .int x2]) (z := (some (.int r_5.1), r_5.2)) i194_18 v194_154 (Or.inl rfl) m141 rfl (Nat.le_of_ble_eq_true rfl) (fn141_call (by omega) er_5) ?_
    refine ev_if (t := 33) i194_21 rfl (fun c_6 => ?_) (fun c_6 => ?_)
    · replace hf := x_pos (show r_5.1 = 0 from c_6) hf
      exact j194_33_ok hd rfl hf
    · replace hf := x_neg (show ¬ r_5.1 = 0 from c_6) hf
      refine ev_do i194_24 rfl ?_
      refine ev_do i194_25 rfl ?_
      refine ev_do i194_26 rfl ?_
      obtain ⟨r_7, er_7, hf⟩ := x_bind hf
      refine ev_sta (as := [.int 4, .int 0, .int x3]) (z := (some (.int r_7.1), r_7.2)) i194_27 v194_154 (Or.inl rfl) m141 rfl (Nat.le_of_ble_eq_true rfl) (fn141_call (by omega) er_7) ?_
      refine ev_if (t := 36) i194_30 rfl (fun c_8 => ?_) (fun c_8 => ?_)
      · replace hf := x_neg (show ¬ r_7.1 = 0 from c_8) hf
        refine ev_do i194_36 rfl ?_
        refine ev_do i194_38 rfl ?_
        refine ev_do i194_39 rfl ?_
        refine ev_do i194_40 rfl ?_
        refine ev_do i194_41 rfl ?_
        refine sh_istore (i' := 4) (n := 2) i194_42 (Or.inl rfl) (xokst_of (Nat.le_of_ble_eq_true rfl) rfl) ?_
        refine ev_do i194_44 rfl ?_
        by_cases c_9 : x3 = 0
        · replace hf := x_pos c_9 hf
          refine sh_tswC (c := 0) (t := 76) i194_45 (show (x3).toInt = 0 by rw [c_9]; rfl) (by decide) (by decide) rfl rfl ?_
          refine sh_aload (i' := 0) (n := 1) i194_76 (Or.inr ⟨rfl, by decide⟩) rfl ?_
          obtain ⟨a_10, ea_10, hf⟩ := x_bind hf
          refine sh_getR i194_77 f194_77 ea_10 ?_
          refine ev_do i194_80 rfl ?_
          obtain ⟨v_11, ev_11, hf⟩ := x_bind hf
          refine sh_aldI (tg := 13) i194_82 (Or.inl ⟨rfl, rfl⟩) ev_11 ?_
          obtain rfl := Option.some.inj hf
          exact sh_iret i194_83 m194 rfl rfl
        · replace hf := x_neg c_9 hf
          by_cases c_12 : x3 = 1
          · replace hf := x_pos c_12 hf
            refine sh_tswC (c := 1) (t := 84) i194_45 (show (x3).toInt = 1 by rw [c_12]; rfl) (by decide) (by decide) rfl rfl ?_
            refine sh_aload (i' := 0) (n := 1) i194_84 (Or.inr ⟨rfl, by decide⟩) rfl ?_
            obtain ⟨a_13, ea_13, hf⟩ := x_bind hf
            refine sh_getR i194_85 f194_80 ea_13 ?_
            refine ev_do i194_88 rfl ?_
            obtain ⟨v_14, ev_14, hf⟩ := x_bind hf
            refine sh_aldI (tg := 13) i194_90 (Or.inl ⟨rfl, rfl⟩) ev_14 ?_
            obtain rfl := Option.some.inj hf
            exact sh_iret i194_91 m194 rfl rfl
          · replace hf := x_neg c_12 hf
            by_cases c_15 : x3 = 2
            · replace hf := x_pos c_15 hf
              refine sh_tswC (c := 2) (t := 92) i194_45 (show (x3).toInt = 2 by rw [c_15]; rfl) (by decide) (by decide) rfl rfl ?_
              refine sh_aload (i' := 0) (n := 1) i194_92 (Or.inr ⟨rfl, by decide⟩) rfl ?_
              obtain ⟨a_16, ea_16, hf⟩ := x_bind hf
              refine sh_getR i194_93 f194_86 ea_16 ?_
              refine ev_do i194_96 rfl ?_
              obtain ⟨v_17, ev_17, hf⟩ := x_bind hf
              refine sh_aldI (tg := 13) i194_98 (Or.inl ⟨rfl, rfl⟩) ev_17 ?_
              obtain rfl := Option.some.inj hf
              exact sh_iret i194_99 m194 rfl rfl
            · replace hf := x_neg c_15 hf
              by_cases c_18 : x3 = 3
              · replace hf := x_pos c_18 hf
                refine sh_tswC (c := 3) (t := 100) i194_45 (show (x3).toInt = 3 by rw [c_18]; rfl) (by decide) (by decide) rfl rfl ?_
                refine sh_aload (i' := 0) (n := 1) i194_100 (Or.inr ⟨rfl, by decide⟩) rfl ?_
                obtain ⟨a_19, ea_19, hf⟩ := x_bind hf
                refine sh_getR i194_101 f194_89 ea_19 ?_
                refine ev_do i194_104 rfl ?_
                obtain ⟨v_20, ev_20, hf⟩ := x_bind hf
                refine sh_aldI (tg := 14) i194_106 (Or.inr (Or.inr ⟨rfl, rfl⟩)) ev_20 ?_
                refine ev_if (t := 114) i194_107 rfl (fun c_21 => ?_) (fun c_21 => ?_)
                · replace hf := x_pos (show v_20 = 0 from c_21) hf
                  refine ev_do i194_114 rfl ?_
                  exact j194_115_ok hd hf
                · replace hf := x_neg (show ¬ v_20 = 0 from c_21) hf
                  refine ev_do i194_110 rfl ?_
                  refine sh_goto (t := 115) i194_111 rfl ?_
                  exact j194_115_ok hd hf
              · replace hf := x_neg c_18 hf
                have nc_9 : (x3).toInt ≠ 0 := fun h9 => c_9 (Int32.toInt_inj.mp h9)
                have nc_12 : (x3).toInt ≠ 1 := fun h9 => c_12 (Int32.toInt_inj.mp h9)
                have nc_15 : (x3).toInt ≠ 2 := fun h9 => c_15 (Int32.toInt_inj.mp h9)
                have nc_18 : (x3).toInt ≠ 3 := fun h9 => c_18 (Int32.toInt_inj.mp h9)
                refine sh_tswD (t := 116) i194_45 (show (x3).toInt < 0 ∨ 3 < (x3).toInt by omega) rfl ?_
                refine sh_aload (i' := 0) (n := 1) i194_116 (Or.inr ⟨rfl, by decide⟩) rfl ?_
                obtain ⟨a_22, ea_22, hf⟩ := x_bind hf
                refine sh_getR i194_117 f194_77 ea_22 ?_
                refine ev_do i194_120 rfl ?_
                obtain ⟨v_23, ev_23, hf⟩ := x_bind hf
                refine sh_aldI (tg := 13) i194_122 (Or.inl ⟨rfl, rfl⟩) ev_23 ?_
                refine ev_do i194_123 rfl ?_
                refine ev_icmp (t := 159) i194_124 rfl (fun c_24 => ?_) (fun c_24 => ?_)
                · replace hf := x_neg (show ¬ v_23 = 2 from c_24) hf
                  refine ev_do i194_159 rfl ?_
                  exact j194_160_ok hd hf
                · replace hf := x_pos (show v_23 = 2 from Decidable.byContradiction (fun h9 => c_24 h9)) hf
                  refine sh_aload (i' := 0) (n := 1) i194_127 (Or.inr ⟨rfl, by decide⟩) rfl ?_
                  refine ev_do i194_128 rfl ?_
                  refine sh_aload (i' := 0) (n := 1) i194_129 (Or.inr ⟨rfl, by decide⟩) rfl ?_
                  obtain ⟨a_25, ea_25, hf⟩ := x_bind hf
                  refine sh_getR i194_130 f194_41 ea_25 ?_
                  refine ev_do i194_133 rfl ?_
                  refine ev_do i194_136 rfl ?_
                  refine ev_do i194_137 rfl ?_
                  refine sh_aload (i' := 0) (n := 1) i194_138 (Or.inr ⟨rfl, by decide⟩) rfl ?_
                  obtain ⟨a_26, ea_26, hf⟩ := x_bind hf
                  refine sh_getR i194_139 f194_92 ea_26 ?_
                  refine ev_do i194_142 rfl ?_
                  obtain ⟨v_27, ev_27, hf⟩ := x_bind hf
                  refine sh_aldI (tg := 13) i194_144 (Or.inl ⟨rfl, rfl⟩) ev_27 ?_
                  refine ev_do i194_145 rfl ?_
                  refine sh_aload (i' := 0) (n := 1) i194_146 (Or.inr ⟨rfl, by decide⟩) rfl ?_
                  obtain ⟨a_28, ea_28, hf⟩ := x_bind hf
                  refine sh_getR i194_147 f194_95 ea_28 ?_
                  refine ev_do i194_150 rfl ?_
                  obtain ⟨v_29, ev_29, hf⟩ := x_bind hf
                  refine sh_aldI (tg := 13) i194_152 (Or.inl ⟨rfl, rfl⟩) ev_29 ?_
                  obtain ⟨_, eu_31, hf⟩ := x_bind hf
                  obtain ⟨r_30, er_30, hf⟩ := x_bind hf
                  refine sh_inv (as := [.int v_29, .int ((600 * x1) + v_27), xrv a_25, .int x1]) (z := (some (.int r_30.1), r_30.2)) i194_153 v194_215 (Or.inl ⟨by decide, rfl⟩) m164 rfl (Nat.le_of_ble_eq_true rfl) eu_31 (fn164_call (by omega) er_30) ?_
                  refine sh_goto (t := 160) i194_156 rfl ?_
                  exact j194_160_ok hd hf
      · replace hf := x_pos (show r_7.1 = 0 from Decidable.byContradiction (fun h9 => c_8 h9)) hf
        exact j194_33_ok hd rfl hf
end
section
def j195_20  (o0 : Option Nat) (x1 : Int32) (h : xH) : Option xH := (xgI h o0 11 45).bind fun v_1 => (xpF h o0 11 45 .int (.int (v_1 + 1))).bind fun h_2 => some h_2
theorem j195_20_ok {xs : List Int32} {d : Nat} (hd : 1 ≤ d) {o0 : Option Nat} {x1 : Int32} {h : xH} {r : xH} (hf : j195_20 o0 x1 h = some r) : xEv (xTa xs) d 195 (20, [xrv o0, .int x1], [], h) (none, r) := by
  unfold j195_20 at hf
  refine sh_aload (i' := 0) (n := 1) i195_20 (Or.inr ⟨rfl, by decide⟩) rfl ?_
  refine sh_dup i195_21 (xrv_cat (o0)) ?_
  obtain ⟨v_1, ev_1, hf⟩ := x_bind hf
  refine sh_getI i195_22 f195_356 ev_1 ?_
  refine ev_do i195_25 rfl ?_
  refine ev_do i195_26 rfl ?_
  obtain ⟨h_2, eh_2, hf⟩ := x_bind hf
  refine sh_put i195_27 f195_356 (by decide) rfl eh_2 ?_
  obtain rfl := Option.some.inj hf
  exact sh_vret i195_30 m195 rfl
def fn195 (o0 : Option Nat) (x1 : Int32) (h : xH) : Option xH := (xgI h o0 11 45).bind fun v_1 => (if 4000 ≤ v_1 then j195_20 o0 x1 h else (xgR h o0 11 44).bind fun a_3 => (xgI h o0 11 45).bind fun v_4 => (xaS h 13 (fun x => x) a_3 v_4 x1).bind fun h_5 => j195_20 o0 x1 h_5)
theorem fn195_call {xs : List Int32} {d : Nat} (hd : 2 ≤ d) {o0 : Option Nat} {x1 : Int32} {h : xH} {r : xH} (hf : fn195 o0 x1 h = some r) : xCall (xTa xs) d 195 [xrv o0, .int x1] h (none, r) := by
  obtain ⟨d, rfl⟩ : ∃ d2, d = d2 + 1 := ⟨d - 1, by omega⟩
  replace hd : 1 ≤ d := by omega
  refine call_of2 (fl := [xrv o0, .int x1]) (Ls := [xrv o0, .int x1]) m195 (by simp [xfl, xrv_cat, xc_i, xc_j, xc_a, xc_f]) (Nat.le_of_ble_eq_true rfl) rfl ?_
  unfold fn195 at hf
  refine sh_aload (i' := 0) (n := 1) i195_0 (Or.inr ⟨rfl, by decide⟩) rfl ?_
  obtain ⟨v_1, ev_1, hf⟩ := x_bind hf
  refine sh_getI i195_1 f195_356 ev_1 ?_
  refine ev_do i195_4 rfl ?_
  refine ev_icmp (t := 20) i195_7 rfl (fun c_2 => ?_) (fun c_2 => ?_)
  · replace hf := x_pos (show 4000 ≤ v_1 from c_2) hf
    exact j195_20_ok hd hf
  · replace hf := x_neg (show ¬ 4000 ≤ v_1 from c_2) hf
    refine sh_aload (i' := 0) (n := 1) i195_10 (Or.inr ⟨rfl, by decide⟩) rfl ?_
    obtain ⟨a_3, ea_3, hf⟩ := x_bind hf
    refine sh_getR i195_11 f195_98 ea_3 ?_
    refine sh_aload (i' := 0) (n := 1) i195_14 (Or.inr ⟨rfl, by decide⟩) rfl ?_
    obtain ⟨v_4, ev_4, hf⟩ := x_bind hf
    refine sh_getI i195_15 f195_356 ev_4 ?_
    refine ev_do i195_18 rfl ?_
    obtain ⟨h_5, eh_5, hf⟩ := x_bind hf
    refine sh_ast (tg := 13) i195_19 (Or.inl ⟨rfl, rfl, rfl⟩) eh_5 ?_
    exact j195_20_ok hd hf
end
section
def l196_18  : Nat → Option Nat → Int32 → Int32 → xH → Option xH
  | 0 => fun _ _ _ _ => none
  | n + 1 => fun o0 x1 x2 h => (if x2 ≤ 0 then some h else if x2 = 0 then none else (xcv h o0 11).bind fun _ => (fn195 o0 (48 + (xrem (x1 / x2) 10)) h).bind fun h_3 => l196_18 n o0 x1 (x2 / 10) h_3)
theorem l196_18_ok {xs : List Int32} {d : Nat} (hd : 2 ≤ d) : ∀ (n : Nat) {o0 : Option Nat} {x1 : Int32} {x2 : Int32} {h : xH} {r : xH}, l196_18 n o0 x1 x2 h = some r → xEv (xTa xs) d 196 (18, [xrv o0, .int x1, .int x2], [], h) (none, r) := by
  intro n
  induction n with
  | zero => intros; rename_i hf; cases hf
  | succ n ih =>
    intro o0 x1 x2 h r hf
    replace hf : ((if x2 ≤ 0 then some h else if x2 = 0 then none else (xcv h o0 11).bind fun _ => (fn195 o0 (48 + (xrem (x1 / x2) 10)) h).bind fun h_3 => l196_18 n o0 x1 (x2 / 10) h_3)) = some r := hf
    refine ev_do i196_18 rfl ?_
    refine ev_if (t := 43) i196_19 rfl (fun c_1 => ?_) (fun c_1 => ?_)
    · replace hf := x_pos (show x2 ≤ 0 from c_1) hf
      obtain rfl := Option.some.inj hf
      exact sh_vret i196_43 m196 rfl
    · replace hf := x_neg (show ¬ x2 ≤ 0 from c_1) hf
      refine sh_aload (i' := 0) (n := 1) i196_22 (Or.inr ⟨rfl, by decide⟩) rfl ?_
      refine ev_do i196_23 rfl ?_
      refine ev_do i196_25 rfl ?_
      refine ev_do i196_26 rfl ?_
      by_cases c_2 : x2 = 0
      · replace hf := x_pos c_2 hf
        cases hf
      · replace hf := x_neg c_2 hf
        refine sh_div i196_27 c_2 ?_
        refine ev_do i196_28 rfl ?_
        refine sh_rem i196_30 (by decide) ?_
        refine ev_do i196_31 rfl ?_
        obtain ⟨_, eu_4, hf⟩ := x_bind hf
        obtain ⟨h_3, eh_3, hf⟩ := x_bind hf
        refine sh_inv (as := [.int (48 + (xrem (x1 / x2) 10))]) (z := (none, h_3)) i196_32 v196_359 (Or.inl ⟨by decide, rfl⟩) m195 rfl (Nat.le_of_ble_eq_true rfl) eu_4 (fn195_call (by omega) eh_3) ?_
        refine ev_do i196_35 rfl ?_
        refine ev_do i196_36 rfl ?_
        refine sh_div i196_38 (by decide) ?_
        refine sh_istore (i' := 2) (n := 1) i196_39 (Or.inr ⟨rfl, by decide⟩) (xokst_of (Nat.le_of_ble_eq_true rfl) rfl) ?_
        refine sh_goto (t := 18) i196_40 rfl ?_
        exact ih hf
def l196_2  : Nat → Option Nat → Int32 → Int32 → xH → Option xH
  | 0 => fun _ _ _ _ => none
  | n + 1 => fun o0 x1 x2 h => if x2 = 0 then none else (if (x1 / x2) ≤ 9 then l196_18 xFuel o0 x1 x2 h else l196_2 n o0 x1 (x2 * 10) h)
theorem l196_2_ok {xs : List Int32} {d : Nat} (hd : 2 ≤ d) : ∀ (n : Nat) {o0 : Option Nat} {x1 : Int32} {x2 : Int32} {h : xH} {r : xH}, l196_2 n o0 x1 x2 h = some r → xEv (xTa xs) d 196 (2, [xrv o0, .int x1, .int x2], [], h) (none, r) := by
  intro n
  induction n with
  | zero => intros; rename_i hf; cases hf
  | succ n ih =>
    intro o0 x1 x2 h r hf
    replace hf : (if x2 = 0 then none else (if (x1 / x2) ≤ 9 then l196_18 xFuel o0 x1 x2 h else l196_2 n o0 x1 (x2 * 10) h)) = some r := hf
    refine ev_do i196_2 rfl ?_
    refine ev_do i196_3 rfl ?_
    by_cases c_1 : x2 = 0
    · replace hf := x_pos c_1 hf
      cases hf
    · replace hf := x_neg c_1 hf
      refine sh_div i196_4 c_1 ?_
      refine ev_do i196_5 rfl ?_
      refine ev_icmp (t := 18) i196_7 rfl (fun c_2 => ?_) (fun c_2 => ?_)
      · replace hf := x_pos (show (x1 / x2) ≤ 9 from c_2) hf
        exact l196_18_ok hd xFuel hf
      · replace hf := x_neg (show ¬ (x1 / x2) ≤ 9 from c_2) hf
        refine ev_do i196_10 rfl ?_
        refine ev_do i196_11 rfl ?_
        refine ev_do i196_13 rfl ?_
        refine sh_istore (i' := 2) (n := 1) i196_14 (Or.inr ⟨rfl, by decide⟩) (xokst_of (Nat.le_of_ble_eq_true rfl) rfl) ?_
        refine sh_goto (t := 2) i196_15 rfl ?_
        exact ih hf
def fn196 (o0 : Option Nat) (x1 : Int32) (h : xH) : Option xH := l196_2 xFuel o0 x1 1 h
theorem fn196_call {xs : List Int32} {d : Nat} (hd : 3 ≤ d) {o0 : Option Nat} {x1 : Int32} {h : xH} {r : xH} (hf : fn196 o0 x1 h = some r) : xCall (xTa xs) d 196 [xrv o0, .int x1] h (none, r) := by
  obtain ⟨d, rfl⟩ : ∃ d2, d = d2 + 1 := ⟨d - 1, by omega⟩
  replace hd : 2 ≤ d := by omega
  refine call_of2 (fl := [xrv o0, .int x1]) (Ls := [xrv o0, .int x1, .float 0]) m196 (by simp [xfl, xrv_cat, xc_i, xc_j, xc_a, xc_f]) (Nat.le_of_ble_eq_true rfl) rfl ?_
  unfold fn196 at hf
  refine ev_do i196_0 rfl ?_
  refine sh_istore (i' := 2) (n := 1) i196_1 (Or.inr ⟨rfl, by decide⟩) (xokst_of (Nat.le_of_ble_eq_true rfl) rfl) ?_
  exact l196_2_ok hd xFuel hf
end
section
def j197_23  (o0 : Option Nat) (h : xH) : Option xH := (xgI h o0 11 47).bind fun v_1 => (xpF h o0 11 47 .int (.int (v_1 + 1))).bind fun h_2 => some h_2
theorem j197_23_ok {xs : List Int32} {d : Nat} (hd : 1 ≤ d) {o0 : Option Nat} {h : xH} {r : xH} (hf : j197_23 o0 h = some r) : xEv (xTa xs) d 197 (23, [xrv o0], [], h) (none, r) := by
  unfold j197_23 at hf
  refine sh_aload (i' := 0) (n := 1) i197_23 (Or.inr ⟨rfl, by decide⟩) rfl ?_
  refine sh_dup i197_24 (xrv_cat (o0)) ?_
  obtain ⟨v_1, ev_1, hf⟩ := x_bind hf
  refine sh_getI i197_25 f197_362 ev_1 ?_
  refine ev_do i197_28 rfl ?_
  refine ev_do i197_29 rfl ?_
  obtain ⟨h_2, eh_2, hf⟩ := x_bind hf
  refine sh_put i197_30 f197_362 (by decide) rfl eh_2 ?_
  obtain rfl := Option.some.inj hf
  exact sh_vret i197_33 m197 rfl
def fn197 (o0 : Option Nat) (h : xH) : Option xH := (xgI h o0 11 47).bind fun v_1 => (if 4001 ≤ v_1 then j197_23 o0 h else (xgR h o0 11 46).bind fun a_3 => (xgI h o0 11 47).bind fun v_4 => (xgI h o0 11 45).bind fun v_5 => (xaS h 13 (fun x => x) a_3 v_4 v_5).bind fun h_6 => j197_23 o0 h_6)
theorem fn197_call {xs : List Int32} {d : Nat} (hd : 2 ≤ d) {o0 : Option Nat} {h : xH} {r : xH} (hf : fn197 o0 h = some r) : xCall (xTa xs) d 197 [xrv o0] h (none, r) := by
  obtain ⟨d, rfl⟩ : ∃ d2, d = d2 + 1 := ⟨d - 1, by omega⟩
  replace hd : 1 ≤ d := by omega
  refine call_of2 (fl := [xrv o0]) (Ls := [xrv o0]) m197 (by simp [xfl, xrv_cat, xc_i, xc_j, xc_a, xc_f]) (Nat.le_of_ble_eq_true rfl) rfl ?_
  unfold fn197 at hf
  refine sh_aload (i' := 0) (n := 1) i197_0 (Or.inr ⟨rfl, by decide⟩) rfl ?_
  obtain ⟨v_1, ev_1, hf⟩ := x_bind hf
  refine sh_getI i197_1 f197_362 ev_1 ?_
  refine ev_do i197_4 rfl ?_
  refine ev_icmp (t := 23) i197_7 rfl (fun c_2 => ?_) (fun c_2 => ?_)
  · replace hf := x_pos (show 4001 ≤ v_1 from c_2) hf
    exact j197_23_ok hd hf
  · replace hf := x_neg (show ¬ 4001 ≤ v_1 from c_2) hf
    refine sh_aload (i' := 0) (n := 1) i197_10 (Or.inr ⟨rfl, by decide⟩) rfl ?_
    obtain ⟨a_3, ea_3, hf⟩ := x_bind hf
    refine sh_getR i197_11 f197_101 ea_3 ?_
    refine sh_aload (i' := 0) (n := 1) i197_14 (Or.inr ⟨rfl, by decide⟩) rfl ?_
    obtain ⟨v_4, ev_4, hf⟩ := x_bind hf
    refine sh_getI i197_15 f197_362 ev_4 ?_
    refine sh_aload (i' := 0) (n := 1) i197_18 (Or.inr ⟨rfl, by decide⟩) rfl ?_
    obtain ⟨v_5, ev_5, hf⟩ := x_bind hf
    refine sh_getI i197_19 f197_356 ev_5 ?_
    obtain ⟨h_6, eh_6, hf⟩ := x_bind hf
    refine sh_ast (tg := 13) i197_22 (Or.inl ⟨rfl, rfl, rfl⟩) eh_6 ?_
    exact j197_23_ok hd hf
end
section
def j198_56  (o0 : Option Nat) (x1 : Int32) (s0 : Option Nat) (s1 : Int32) (h : xH) : Option xH := (xpF h s0 11 49 .int (.int s1)).bind fun h_1 => (xcv h_1 o0 11).bind fun _ => (fn195 o0 10 h_1).bind fun h_2 => some h_2
theorem j198_56_ok {xs : List Int32} {d : Nat} (hd : 2 ≤ d) {o0 : Option Nat} {x1 : Int32} {s0 : Option Nat} {s1 : Int32} {h : xH} {r : xH} (hf : j198_56 o0 x1 s0 s1 h = some r) : xEv (xTa xs) d 198 (56, [xrv o0, .int x1], [.int s1, xrv s0], h) (none, r) := by
  unfold j198_56 at hf
  obtain ⟨h_1, eh_1, hf⟩ := x_bind hf
  refine sh_put i198_56 f198_365 (by decide) rfl eh_1 ?_
  refine sh_aload (i' := 0) (n := 1) i198_59 (Or.inr ⟨rfl, by decide⟩) rfl ?_
  refine ev_do i198_60 rfl ?_
  obtain ⟨_, eu_3, hf⟩ := x_bind hf
  obtain ⟨h_2, eh_2, hf⟩ := x_bind hf
  refine sh_inv (as := [.int 10]) (z := (none, h_2)) i198_62 v198_359 (Or.inl ⟨by decide, rfl⟩) m195 rfl (Nat.le_of_ble_eq_true rfl) eu_3 (fn195_call (by omega) eh_2) ?_
  obtain rfl := Option.some.inj hf
  exact sh_vret i198_65 m198 rfl
def j198_28  (o0 : Option Nat) (s0 : Int32) (h : xH) : Option xH := (xgI h o0 11 45).bind fun v_1 => (xgI h o0 11 49).bind fun v_2 => (if (v_1 - s0) ≤ v_2 then (xgI h o0 11 49).bind fun v_4 => j198_56 o0 s0 o0 v_4 h else (xgI h o0 11 45).bind fun v_5 => j198_56 o0 s0 o0 (v_5 - s0) h)
theorem j198_28_ok {xs : List Int32} {d : Nat} (hd : 2 ≤ d) {u1 : Value} {o0 : Option Nat} {s0 : Int32} {h : xH} {r : xH} (hu1 : u1.category = 1) (hf : j198_28 o0 s0 h = some r) : xEv (xTa xs) d 198 (28, [xrv o0, u1], [.int s0], h) (none, r) := by
  unfold j198_28 at hf
  refine sh_istore (i' := 1) (n := 1) i198_28 (Or.inr ⟨rfl, by decide⟩) (xokst_of (Nat.le_of_ble_eq_true rfl) (xrv_cat (o0))) ?_
  refine sh_aload (i' := 0) (n := 1) i198_29 (Or.inr ⟨rfl, by decide⟩) rfl ?_
  refine sh_aload (i' := 0) (n := 1) i198_30 (Or.inr ⟨rfl, by decide⟩) rfl ?_
  obtain ⟨v_1, ev_1, hf⟩ := x_bind hf
  refine sh_getI i198_31 f198_356 ev_1 ?_
  refine ev_do i198_34 rfl ?_
  refine ev_do i198_35 rfl ?_
  refine sh_aload (i' := 0) (n := 1) i198_36 (Or.inr ⟨rfl, by decide⟩) rfl ?_
  obtain ⟨v_2, ev_2, hf⟩ := x_bind hf
  refine sh_getI i198_37 f198_365 ev_2 ?_
  refine ev_icmp (t := 52) i198_40 rfl (fun c_3 => ?_) (fun c_3 => ?_)
  · replace hf := x_pos (show (v_1 - s0) ≤ v_2 from c_3) hf
    refine sh_aload (i' := 0) (n := 1) i198_52 (Or.inr ⟨rfl, by decide⟩) rfl ?_
    obtain ⟨v_4, ev_4, hf⟩ := x_bind hf
    refine sh_getI i198_53 f198_365 ev_4 ?_
    exact j198_56_ok hd hf
  · replace hf := x_neg (show ¬ (v_1 - s0) ≤ v_2 from c_3) hf
    refine sh_aload (i' := 0) (n := 1) i198_43 (Or.inr ⟨rfl, by decide⟩) rfl ?_
    obtain ⟨v_5, ev_5, hf⟩ := x_bind hf
    refine sh_getI i198_44 f198_356 ev_5 ?_
    refine ev_do i198_47 rfl ?_
    refine ev_do i198_48 rfl ?_
    refine sh_goto (t := 56) i198_49 rfl ?_
    exact j198_56_ok hd hf
def fn198 (o0 : Option Nat) (h : xH) : Option xH := (xgI h o0 11 47).bind fun v_1 => (if 4002 ≤ v_1 then (xgI h o0 11 45).bind fun v_3 => j198_28 o0 v_3 h else (xgR h o0 11 46).bind fun a_4 => (xgI h o0 11 47).bind fun v_5 => (xaI h 13 a_4 (v_5 - 1)).bind fun v_6 => j198_28 o0 v_6 h)
theorem fn198_call {xs : List Int32} {d : Nat} (hd : 3 ≤ d) {o0 : Option Nat} {h : xH} {r : xH} (hf : fn198 o0 h = some r) : xCall (xTa xs) d 198 [xrv o0] h (none, r) := by
  obtain ⟨d, rfl⟩ : ∃ d2, d = d2 + 1 := ⟨d - 1, by omega⟩
  replace hd : 2 ≤ d := by omega
  refine call_of2 (fl := [xrv o0]) (Ls := [xrv o0, .float 0]) m198 (by simp [xfl, xrv_cat, xc_i, xc_j, xc_a, xc_f]) (Nat.le_of_ble_eq_true rfl) rfl ?_
  unfold fn198 at hf
  refine sh_aload (i' := 0) (n := 1) i198_0 (Or.inr ⟨rfl, by decide⟩) rfl ?_
  obtain ⟨v_1, ev_1, hf⟩ := x_bind hf
  refine sh_getI i198_1 f198_362 ev_1 ?_
  refine ev_do i198_4 rfl ?_
  refine ev_icmp (t := 24) i198_7 rfl (fun c_2 => ?_) (fun c_2 => ?_)
  · replace hf := x_pos (show 4002 ≤ v_1 from c_2) hf
    refine sh_aload (i' := 0) (n := 1) i198_24 (Or.inr ⟨rfl, by decide⟩) rfl ?_
    obtain ⟨v_3, ev_3, hf⟩ := x_bind hf
    refine sh_getI i198_25 f198_356 ev_3 ?_
    exact j198_28_ok hd rfl hf
  · replace hf := x_neg (show ¬ 4002 ≤ v_1 from c_2) hf
    refine sh_aload (i' := 0) (n := 1) i198_10 (Or.inr ⟨rfl, by decide⟩) rfl ?_
    obtain ⟨a_4, ea_4, hf⟩ := x_bind hf
    refine sh_getR i198_11 f198_101 ea_4 ?_
    refine sh_aload (i' := 0) (n := 1) i198_14 (Or.inr ⟨rfl, by decide⟩) rfl ?_
    obtain ⟨v_5, ev_5, hf⟩ := x_bind hf
    refine sh_getI i198_15 f198_362 ev_5 ?_
    refine ev_do i198_18 rfl ?_
    refine ev_do i198_19 rfl ?_
    obtain ⟨v_6, ev_6, hf⟩ := x_bind hf
    refine sh_aldI (tg := 13) i198_20 (Or.inl ⟨rfl, rfl⟩) ev_6 ?_
    refine sh_goto (t := 28) i198_21 rfl ?_
    exact j198_28_ok hd rfl hf
end
section
def fn199 (o0 : Option Nat) (h : xH) : Option xH := (xcv h o0 11).bind fun _ => (fn197 o0 h).bind fun h_1 => (xcv h_1 o0 11).bind fun _ => (fn198 o0 h_1).bind fun h_2 => some h_2
theorem fn199_call {xs : List Int32} {d : Nat} (hd : 4 ≤ d) {o0 : Option Nat} {h : xH} {r : xH} (hf : fn199 o0 h = some r) : xCall (xTa xs) d 199 [xrv o0] h (none, r) := by
  obtain ⟨d, rfl⟩ : ∃ d2, d = d2 + 1 := ⟨d - 1, by omega⟩
  replace hd : 3 ≤ d := by omega
  refine call_of2 (fl := [xrv o0]) (Ls := [xrv o0]) m199 (by simp [xfl, xrv_cat, xc_i, xc_j, xc_a, xc_f]) (Nat.le_of_ble_eq_true rfl) rfl ?_
  unfold fn199 at hf
  refine sh_aload (i' := 0) (n := 1) i199_0 (Or.inr ⟨rfl, by decide⟩) rfl ?_
  obtain ⟨_, eu_4, hf⟩ := x_bind hf
  obtain ⟨h_1, eh_1, hf⟩ := x_bind hf
  refine sh_inv (as := []) (z := (none, h_1)) i199_1 v199_368 (Or.inl ⟨by decide, rfl⟩) m197 rfl (Nat.le_of_ble_eq_true rfl) eu_4 (fn197_call (by omega) eh_1) ?_
  refine sh_aload (i' := 0) (n := 1) i199_4 (Or.inr ⟨rfl, by decide⟩) rfl ?_
  obtain ⟨_, eu_3, hf⟩ := x_bind hf
  obtain ⟨h_2, eh_2, hf⟩ := x_bind hf
  refine sh_inv (as := []) (z := (none, h_2)) i199_5 v199_371 (Or.inl ⟨by decide, rfl⟩) m198 rfl (Nat.le_of_ble_eq_true rfl) eu_3 (fn198_call (by omega) eh_2) ?_
  obtain rfl := Option.some.inj hf
  exact sh_vret i199_8 m199 rfl
end
section
def l201_2  : Nat → Option Nat → Int32 → Int32 → xH → Option xH
  | 0 => fun _ _ _ _ => none
  | n + 1 => fun o0 x1 x2 h => (xgR h o0 11 8).bind fun a_1 => (xaI h 13 a_1 x1).bind fun v_2 => (if v_2 ≤ x2 then some h else (xgR h o0 11 7).bind fun a_4 => (xaI h 13 a_4 ((10 * x1) + x2)).bind fun v_5 => (xcv h o0 11).bind fun _ => (fn195 o0 v_5 h).bind fun h_6 => l201_2 n o0 x1 (x2 + 1) h_6)
theorem l201_2_ok {xs : List Int32} {d : Nat} (hd : 2 ≤ d) : ∀ (n : Nat) {o0 : Option Nat} {x1 : Int32} {x2 : Int32} {h : xH} {r : xH}, l201_2 n o0 x1 x2 h = some r → xEv (xTa xs) d 201 (2, [xrv o0, .int x1, .int x2], [], h) (none, r) := by
  intro n
  induction n with
  | zero => intros; rename_i hf; cases hf
  | succ n ih =>
    intro o0 x1 x2 h r hf
    replace hf : ((xgR h o0 11 8).bind fun a_1 => (xaI h 13 a_1 x1).bind fun v_2 => (if v_2 ≤ x2 then some h else (xgR h o0 11 7).bind fun a_4 => (xaI h 13 a_4 ((10 * x1) + x2)).bind fun v_5 => (xcv h o0 11).bind fun _ => (fn195 o0 v_5 h).bind fun h_6 => l201_2 n o0 x1 (x2 + 1) h_6)) = some r := hf
    refine ev_do i201_2 rfl ?_
    refine sh_aload (i' := 0) (n := 1) i201_3 (Or.inr ⟨rfl, by decide⟩) rfl ?_
    obtain ⟨a_1, ea_1, hf⟩ := x_bind hf
    refine sh_getR i201_4 f201_29 ea_1 ?_
    refine ev_do i201_7 rfl ?_
    obtain ⟨v_2, ev_2, hf⟩ := x_bind hf
    refine sh_aldI (tg := 13) i201_8 (Or.inl ⟨rfl, rfl⟩) ev_2 ?_
    refine ev_icmp (t := 33) i201_9 rfl (fun c_3 => ?_) (fun c_3 => ?_)
    · replace hf := x_pos (show v_2 ≤ x2 from c_3) hf
      obtain rfl := Option.some.inj hf
      exact sh_vret i201_33 m201 rfl
    · replace hf := x_neg (show ¬ v_2 ≤ x2 from c_3) hf
      refine sh_aload (i' := 0) (n := 1) i201_12 (Or.inr ⟨rfl, by decide⟩) rfl ?_
      refine sh_aload (i' := 0) (n := 1) i201_13 (Or.inr ⟨rfl, by decide⟩) rfl ?_
      obtain ⟨a_4, ea_4, hf⟩ := x_bind hf
      refine sh_getR i201_14 f201_26 ea_4 ?_
      refine ev_do i201_17 rfl ?_
      refine ev_do i201_19 rfl ?_
      refine ev_do i201_20 rfl ?_
      refine ev_do i201_21 rfl ?_
      refine ev_do i201_22 rfl ?_
      obtain ⟨v_5, ev_5, hf⟩ := x_bind hf
      refine sh_aldI (tg := 13) i201_23 (Or.inl ⟨rfl, rfl⟩) ev_5 ?_
      obtain ⟨_, eu_7, hf⟩ := x_bind hf
      obtain ⟨h_6, eh_6, hf⟩ := x_bind hf
      refine sh_inv (as := [.int v_5]) (z := (none, h_6)) i201_24 v201_359 (Or.inl ⟨by decide, rfl⟩) m195 rfl (Nat.le_of_ble_eq_true rfl) eu_7 (fn195_call (by omega) eh_6) ?_
      refine sh_inc (i' := 2) i201_27 rfl (xokst_of (Nat.le_of_ble_eq_true rfl) rfl) rfl ?_
      refine sh_goto (t := 2) i201_30 rfl ?_
      exact ih hf
def fn201 (o0 : Option Nat) (x1 : Int32) (h : xH) : Option xH := l201_2 xFuel o0 x1 0 h
theorem fn201_call {xs : List Int32} {d : Nat} (hd : 3 ≤ d) {o0 : Option Nat} {x1 : Int32} {h : xH} {r : xH} (hf : fn201 o0 x1 h = some r) : xCall (xTa xs) d 201 [xrv o0, .int x1] h (none, r) := by
  obtain ⟨d, rfl⟩ : ∃ d2, d = d2 + 1 := ⟨d - 1, by omega⟩
  replace hd : 2 ≤ d := by omega
  refine call_of2 (fl := [xrv o0, .int x1]) (Ls := [xrv o0, .int x1, .float 0]) m201 (by simp [xfl, xrv_cat, xc_i, xc_j, xc_a, xc_f]) (Nat.le_of_ble_eq_true rfl) rfl ?_
  unfold fn201 at hf
  refine ev_do i201_0 rfl ?_
  refine sh_istore (i' := 2) (n := 1) i201_1 (Or.inr ⟨rfl, by decide⟩) (xokst_of (Nat.le_of_ble_eq_true rfl) rfl) ?_
  exact l201_2_ok hd xFuel hf
end
