section
def j31_40  (o0 : Option Nat) (h : xH) : Option xH := some h
theorem j31_40_ok {xs : List Int32} {d : Nat} (hd : 1 ≤ d) {o0 : Option Nat} {h : xH} {r : xH} (hf : j31_40 o0 h = some r) : xEv (xTa xs) d 31 (40, [xrv o0], [], h) (none, r) := by
  unfold j31_40 at hf
  obtain rfl := Option.some.inj hf
  exact sh_vret i31_40 m31 rfl
def fn31 (o0 : Option Nat) (h : xH) : Option xH := (xgI h o0 3 4).bind fun v_1 => (xgR h o0 3 3).bind fun a_2 => (xaN h a_2).bind fun v_3 => (if v_3 ≤ (v_1 + 1) then j31_40 o0 h else (xgR h o0 3 3).bind fun a_5 => (xgI h o0 3 4).bind fun v_6 => (xgR h o0 3 2).bind fun a_7 => (xgI h a_7 9 1).bind fun v_8 => (xaS h 13 (fun x => x) a_5 v_6 v_8).bind fun h_9 => (xgI h_9 o0 3 4).bind fun v_10 => (xpF h_9 o0 3 4 .int (.int (v_10 + 1))).bind fun h_11 => j31_40 o0 h_11)
theorem fn31_call {xs : List Int32} {d : Nat} (hd : 2 ≤ d) {o0 : Option Nat} {h : xH} {r : xH} (hf : fn31 o0 h = some r) : xCall (xTa xs) d 31 [xrv o0] h (none, r) := by
  obtain ⟨d, rfl⟩ : ∃ d2, d = d2 + 1 := ⟨d - 1, by omega⟩
  replace hd : 1 ≤ d := by omega
  refine call_of2 (fl := [xrv o0]) (Ls := [xrv o0]) m31 (by simp [xfl, xrv_cat, xc_i, xc_j, xc_a, xc_f]) (Nat.le_of_ble_eq_true rfl) rfl ?_
  unfold fn31 at hf
  refine sh_aload (i' := 0) (n := 1) i31_0 (Or.inr ⟨rfl, by decide⟩) rfl ?_
  obtain ⟨v_1, ev_1, hf⟩ := x_bind hf
  refine sh_getI i31_1 f31_166 ev_1 ?_
  refine ev_do i31_4 rfl ?_
  refine ev_do i31_5 rfl ?_
  refine sh_aload (i' := 0) (n := 1) i31_6 (Or.inr ⟨rfl, by decide⟩) rfl ?_
  obtain ⟨a_2, ea_2, hf⟩ := x_bind hf
  refine sh_getR i31_7 f31_26 ea_2 ?_
  obtain ⟨v_3, ev_3, hf⟩ := x_bind hf
  refine sh_len i31_10 ev_3 ?_
  refine ev_icmp (t := 40) i31_11 rfl (fun c_4 => ?_) (fun c_4 => ?_)
  · replace hf := x_pos (show v_3 ≤ (v_1 + 1) from c_4) hf
    exact j31_40_ok hd hf
  · replace hf := x_neg (show ¬ v_3 ≤ (v_1 + 1) from c_4) hf
    refine sh_aload (i' := 0) (n := 1) i31_14 (Or.inr ⟨rfl, by decide⟩) rfl ?_
    obtain ⟨a_5, ea_5, hf⟩ := x_bind hf
    refine sh_getR i31_15 f31_26 ea_5 ?_
    refine sh_aload (i' := 0) (n := 1) i31_18 (Or.inr ⟨rfl, by decide⟩) rfl ?_
    obtain ⟨v_6, ev_6, hf⟩ := x_bind hf
    refine sh_getI i31_19 f31_166 ev_6 ?_
    refine sh_aload (i' := 0) (n := 1) i31_22 (Or.inr ⟨rfl, by decide⟩) rfl ?_
    obtain ⟨a_7, ea_7, hf⟩ := x_bind hf
    refine sh_getR i31_23 f31_22 ea_7 ?_
    obtain ⟨v_8, ev_8, hf⟩ := x_bind hf
    refine sh_getI i31_26 f31_131 ev_8 ?_
    obtain ⟨h_9, eh_9, hf⟩ := x_bind hf
    refine sh_ast (tg := 13) i31_29 (Or.inl ⟨rfl, rfl, rfl⟩) eh_9 ?_
    refine sh_aload (i' := 0) (n := 1) i31_30 (Or.inr ⟨rfl, by decide⟩) rfl ?_
    refine sh_dup i31_31 (xrv_cat (o0)) ?_
    obtain ⟨v_10, ev_10, hf⟩ := x_bind hf
    refine sh_getI i31_32 f31_166 ev_10 ?_
    refine ev_do i31_35 rfl ?_
    refine ev_do i31_36 rfl ?_
    obtain ⟨h_11, eh_11, hf⟩ := x_bind hf
    refine sh_put i31_37 f31_166 (by decide) rfl eh_11 ?_
    exact j31_40_ok hd hf
end
section
def j32_28  (o0 : Option Nat) (h : xH) : Option xH := some h
theorem j32_28_ok {xs : List Int32} {d : Nat} (hd : 1 ≤ d) {o0 : Option Nat} {h : xH} {r : xH} (hf : j32_28 o0 h = some r) : xEv (xTa xs) d 32 (28, [xrv o0], [], h) (none, r) := by
  unfold j32_28 at hf
  obtain rfl := Option.some.inj hf
  exact sh_vret i32_28 m32 rfl
def fn32 (o0 : Option Nat) (h : xH) : Option xH := (xgI h o0 3 4).bind fun v_1 => (xgR h o0 3 3).bind fun a_2 => (xaN h a_2).bind fun v_3 => (if v_3 ≤ v_1 then j32_28 o0 h else (xgR h o0 3 3).bind fun a_5 => (xgI h o0 3 4).bind fun v_6 => (xgR h o0 3 2).bind fun a_7 => (xgI h a_7 9 1).bind fun v_8 => (xaS h 13 (fun x => x) a_5 v_6 v_8).bind fun h_9 => j32_28 o0 h_9)
theorem fn32_call {xs : List Int32} {d : Nat} (hd : 2 ≤ d) {o0 : Option Nat} {h : xH} {r : xH} (hf : fn32 o0 h = some r) : xCall (xTa xs) d 32 [xrv o0] h (none, r) := by
  obtain ⟨d, rfl⟩ : ∃ d2, d = d2 + 1 := ⟨d - 1, by omega⟩
  replace hd : 1 ≤ d := by omega
  refine call_of2 (fl := [xrv o0]) (Ls := [xrv o0]) m32 (by simp [xfl, xrv_cat, xc_i, xc_j, xc_a, xc_f]) (Nat.le_of_ble_eq_true rfl) rfl ?_
  unfold fn32 at hf
  refine sh_aload (i' := 0) (n := 1) i32_0 (Or.inr ⟨rfl, by decide⟩) rfl ?_
  obtain ⟨v_1, ev_1, hf⟩ := x_bind hf
  refine sh_getI i32_1 f32_166 ev_1 ?_
  refine sh_aload (i' := 0) (n := 1) i32_4 (Or.inr ⟨rfl, by decide⟩) rfl ?_
  obtain ⟨a_2, ea_2, hf⟩ := x_bind hf
  refine sh_getR i32_5 f32_26 ea_2 ?_
  obtain ⟨v_3, ev_3, hf⟩ := x_bind hf
  refine sh_len i32_8 ev_3 ?_
  refine ev_icmp (t := 28) i32_9 rfl (fun c_4 => ?_) (fun c_4 => ?_)
  · replace hf := x_pos (show v_3 ≤ v_1 from c_4) hf
    exact j32_28_ok hd hf
  · replace hf := x_neg (show ¬ v_3 ≤ v_1 from c_4) hf
    refine sh_aload (i' := 0) (n := 1) i32_12 (Or.inr ⟨rfl, by decide⟩) rfl ?_
    obtain ⟨a_5, ea_5, hf⟩ := x_bind hf
    refine sh_getR i32_13 f32_26 ea_5 ?_
    refine sh_aload (i' := 0) (n := 1) i32_16 (Or.inr ⟨rfl, by decide⟩) rfl ?_
    obtain ⟨v_6, ev_6, hf⟩ := x_bind hf
    refine sh_getI i32_17 f32_166 ev_6 ?_
    refine sh_aload (i' := 0) (n := 1) i32_20 (Or.inr ⟨rfl, by decide⟩) rfl ?_
    obtain ⟨a_7, ea_7, hf⟩ := x_bind hf
    refine sh_getR i32_21 f32_22 ea_7 ?_
    obtain ⟨v_8, ev_8, hf⟩ := x_bind hf
    refine sh_getI i32_24 f32_131 ev_8 ?_
    obtain ⟨h_9, eh_9, hf⟩ := x_bind hf
    refine sh_ast (tg := 13) i32_27 (Or.inl ⟨rfl, rfl, rfl⟩) eh_9 ?_
    exact j32_28_ok hd hf
end
section
def j58_46  (o0 : Option Nat) (o1 : Option Nat) (x2 : Int32) (h : xH) : Option (Int32 × xH) := some (0, h)
theorem j58_46_ok {xs : List Int32} {d : Nat} (hd : 1 ≤ d) {o0 : Option Nat} {o1 : Option Nat} {x2 : Int32} {h : xH} {r : (Int32 × xH)} (hf : j58_46 o0 o1 x2 h = some r) : xEv (xTa xs) d 58 (46, [xrv o0, xrv o1, .int x2], [], h) (some (.int r.1), r.2) := by
  unfold j58_46 at hf
  refine ev_do i58_46 rfl ?_
  obtain rfl := Option.some.inj hf
  exact sh_iret i58_47 m58 rfl rfl
def l58_2  : Nat → Option Nat → Option Nat → Int32 → xH → Option (Int32 × xH)
  | 0 => fun _ _ _ _ => none
  | n + 1 => fun o0 o1 x2 h => (xgI h o0 5 4).bind fun v_1 => (if v_1 ≤ x2 then (if o1 = none then j58_46 o0 o1 x2 h else (xgI h o0 5 4).bind fun v_4 => (xgR h o0 5 2).bind fun a_5 => (xaN h a_5).bind fun v_6 => (if v_4 < v_6 then (xgR h o0 5 2).bind fun a_8 => (xgI h o0 5 4).bind fun v_9 => (xaT h a_8 v_9 o1).bind fun h_10 => (xgI h_10 o0 5 4).bind fun v_11 => (xpF h_10 o0 5 4 .int (.int (v_11 + 1))).bind fun h_12 => (xgI h_12 o0 5 4).bind fun v_13 => some (v_13, h_12) else j58_46 o0 o1 x2 h)) else (xgR h o0 5 2).bind fun a_14 => (xaR h a_14 x2).bind fun a_15 => (if a_15 = o1 then some (x2 + 1, h) else l58_2 n o0 o1 (x2 + 1) h))
theorem l58_2_ok {xs : List Int32} {d : Nat} (hd : 1 ≤ d) : ∀ (n : Nat) {o0 : Option Nat} {o1 : Option Nat} {x2 : Int32} {h : xH} {r : (Int32 × xH)}, l58_2 n o0 o1 x2 h = some r → xEv (xTa xs) d 58 (2, [xrv o0, xrv o1, .int x2], [], h) (some (.int r.1), r.2) := by
  intro n
  induction n with
  | zero => intros; rename_i hf; cases hf
  | succ n ih =>
    intro o0 o1 x2 h r hf
    replace hf : ((xgI h o0 5 4).bind fun v_1 => (if v_1 ≤ x2 then (if o1 = none then j58_46 o0 o1 x2 h else (xgI h o0 5 4).bind fun v_4 => (xgR h o0 5 2).bind fun a_5 => (xaN h a_5).bind fun v_6 => (if v_4 < v_6 then (xgR h o0 5 2).bind fun a_8 => (xgI h o0 5 4).bind fun v_9 => (xaT h a_8 v_9 o1).bind fun h_10 => (xgI h_10 o0 5 4).bind fun v_11 => (xpF h_10 o0 5 4 .int (.int (v_11 + 1))).bind fun h_12 => (xgI h_12 o0 5 4).bind fun v_13 => some (v_13, h_12) else j58_46 o0 o1 x2 h)) else (xgR h o0 5 2).bind fun a_14 => (xaR h a_14 x2).bind fun a_15 => (if a_15 = o1 then some (x2 + 1, h) else l58_2 n o0 o1 (x2 + 1) h))) = some r := hf
    refine ev_do i58_2 rfl ?_
    refine sh_aload (i' := 0) (n := 1) i58_3 (Or.inr ⟨rfl, by decide⟩) rfl ?_
    obtain ⟨v_1, ev_1, hf⟩ := x_bind hf
    refine sh_getI i58_4 f58_37 ev_1 ?_
    refine ev_icmp (t := 30) i58_7 rfl (fun c_2 => ?_) (fun c_2 => ?_)
    · replace hf := x_pos (show v_1 ≤ x2 from c_2) hf
      refine sh_aload (i' := 1) (n := 1) i58_30 (Or.inr ⟨rfl, by decide⟩) rfl ?_
      refine sh_null (t := 46) i58_31 rfl (fun c_3 => ?_) (fun c_3 => ?_)
      · replace hf := x_pos c_3 hf
        exact j58_46_ok hd hf
      · replace hf := x_neg c_3 hf
        refine sh_aload (i' := 0) (n := 1) i58_34 (Or.inr ⟨rfl, by decide⟩) rfl ?_
        obtain ⟨v_4, ev_4, hf⟩ := x_bind hf
        refine sh_getI i58_35 f58_37 ev_4 ?_
        refine sh_aload (i' := 0) (n := 1) i58_38 (Or.inr ⟨rfl, by decide⟩) rfl ?_
        obtain ⟨a_5, ea_5, hf⟩ := x_bind hf
        refine sh_getR i58_39 f58_26 ea_5 ?_
        obtain ⟨v_6, ev_6, hf⟩ := x_bind hf
        refine sh_len i58_42 ev_6 ?_
        refine ev_icmp (t := 48) i58_43 rfl (fun c_7 => ?_) (fun c_7 => ?_)
        · replace hf := x_pos (show v_4 < v_6 from c_7) hf
          refine sh_aload (i' := 0) (n := 1) i58_48 (Or.inr ⟨rfl, by decide⟩) rfl ?_
          obtain ⟨a_8, ea_8, hf⟩ := x_bind hf
          refine sh_getR i58_49 f58_26 ea_8 ?_
          refine sh_aload (i' := 0) (n := 1) i58_52 (Or.inr ⟨rfl, by decide⟩) rfl ?_
          obtain ⟨v_9, ev_9, hf⟩ := x_bind hf
          refine sh_getI i58_53 f58_37 ev_9 ?_
          refine sh_aload (i' := 1) (n := 1) i58_56 (Or.inr ⟨rfl, by decide⟩) rfl ?_
          obtain ⟨h_10, eh_10, hf⟩ := x_bind hf
          refine sh_asT i58_57 eh_10 ?_
          refine sh_aload (i' := 0) (n := 1) i58_58 (Or.inr ⟨rfl, by decide⟩) rfl ?_
          refine sh_dup i58_59 (xrv_cat (o0)) ?_
          obtain ⟨v_11, ev_11, hf⟩ := x_bind hf
          refine sh_getI i58_60 f58_37 ev_11 ?_
          refine ev_do i58_63 rfl ?_
          refine ev_do i58_64 rfl ?_
          obtain ⟨h_12, eh_12, hf⟩ := x_bind hf
          refine sh_put i58_65 f58_37 (by decide) rfl eh_12 ?_
          refine sh_aload (i' := 0) (n := 1) i58_68 (Or.inr ⟨rfl, by decide⟩) rfl ?_
          obtain ⟨v_13, ev_13, hf⟩ := x_bind hf
          refine sh_getI i58_69 f58_37 ev_13 ?_
          obtain rfl := Option.some.inj hf
          exact sh_iret i58_72 m58 rfl rfl
        · replace hf := x_neg (show ¬ v_4 < v_6 from c_7) hf
          exact j58_46_ok hd hf
    · replace hf := x_neg (show ¬ v_1 ≤ x2 from c_2) hf
      refine sh_aload (i' := 0) (n := 1) i58_10 (Or.inr ⟨rfl, by decide⟩) rfl ?_
      obtain ⟨a_14, ea_14, hf⟩ := x_bind hf
      refine sh_getR i58_11 f58_26 ea_14 ?_
      refine ev_do i58_14 rfl ?_
      obtain ⟨a_15, ea_15, hf⟩ := x_bind hf
      refine sh_aldR i58_15 ea_15 ?_
      refine sh_aload (i' := 1) (n := 1) i58_16 (Or.inr ⟨rfl, by decide⟩) rfl ?_
      refine sh_acmp (ne := true) (t := 24) i58_17 rfl (fun c_16 => ?_) (fun c_16 => ?_)
      · replace hf := x_pos c_16 hf
        refine ev_do i58_20 rfl ?_
        refine ev_do i58_21 rfl ?_
        refine ev_do i58_22 rfl ?_
        obtain rfl := Option.some.inj hf
        exact sh_iret i58_23 m58 rfl rfl
      · replace hf := x_neg c_16 hf
        refine sh_inc (i' := 2) i58_24 rfl (xokst_of (Nat.le_of_ble_eq_true rfl) (xrv_cat (o1))) rfl ?_
        refine sh_goto (t := 2) i58_27 rfl ?_
        exact ih hf
def fn58 (o0 : Option Nat) (o1 : Option Nat) (h : xH) : Option (Int32 × xH) := l58_2 xFuel o0 o1 0 h
theorem fn58_call {xs : List Int32} {d : Nat} (hd : 2 ≤ d) {o0 : Option Nat} {o1 : Option Nat} {h : xH} {r : (Int32 × xH)} (hf : fn58 o0 o1 h = some r) : xCall (xTa xs) d 58 [xrv o0, xrv o1] h (some (.int r.1), r.2) := by
  obtain ⟨d, rfl⟩ : ∃ d2, d = d2 + 1 := ⟨d - 1, by omega⟩
  replace hd : 1 ≤ d := by omega
  refine call_of2 (fl := [xrv o0, xrv o1]) (Ls := [xrv o0, xrv o1, .float 0]) m58 (by simp [xfl, xrv_cat, xc_i, xc_j, xc_a, xc_f]) (Nat.le_of_ble_eq_true rfl) rfl ?_
  unfold fn58 at hf
  refine ev_do i58_0 rfl ?_
  refine sh_istore (i' := 2) (n := 1) i58_1 (Or.inr ⟨rfl, by decide⟩) (xokst_of (Nat.le_of_ble_eq_true rfl) (xrv_cat (o1))) ?_
  exact l58_2_ok hd xFuel hf
end
section
def fn30 (o0 : Option Nat) (o1 : Option Nat) (o2 : Option Nat) (o3 : Option Nat) (h : xH) : Option xH := (xcv h o0 3).bind fun _ => (fn31 o0 h).bind fun h_1 => (xgR h_1 o0 3 2).bind fun a_2 => (xgI h_1 o2 0 1).bind fun v_3 => none
theorem fn30_call {xs : List Int32} {d : Nat} (hd : 4 ≤ d) {o0 : Option Nat} {o1 : Option Nat} {o2 : Option Nat} {o3 : Option Nat} {h : xH} {r : xH} (hf : fn30 o0 o1 o2 o3 h = some r) : xCall (xTa xs) d 30 [xrv o0, xrv o1, xrv o2, xrv o3] h (none, r) := by
  obtain ⟨d, rfl⟩ : ∃ d2, d = d2 + 1 := ⟨d - 1, by omega⟩
  replace hd : 3 ≤ d := by omega
  refine call_of2 (fl := [xrv o0, xrv o1, xrv o2, xrv o3]) (Ls := [xrv o0, xrv o1, xrv o2, xrv o3]) m30 (by simp [xfl, xrv_cat, xc_i, xc_j, xc_a, xc_f]) (Nat.le_of_ble_eq_true rfl) rfl ?_
  unfold fn30 at hf
  refine sh_aload (i' := 0) (n := 1) i30_0 (Or.inr ⟨rfl, by decide⟩) rfl ?_
  obtain ⟨_, eu_4, hf⟩ := x_bind hf
  obtain ⟨h_1, eh_1, hf⟩ := x_bind hf
  refine sh_inv (as := []) (z := (none, h_1)) i30_1 v30_194 (Or.inl ⟨by decide, rfl⟩) m31 rfl (Nat.le_of_ble_eq_true rfl) eu_4 (fn31_call (by omega) eh_1) ?_
  refine sh_aload (i' := 0) (n := 1) i30_4 (Or.inr ⟨rfl, by decide⟩) rfl ?_
  obtain ⟨a_2, ea_2, hf⟩ := x_bind hf
  refine sh_getR i30_5 f30_22 ea_2 ?_
  refine sh_aload (i' := 2) (n := 1) i30_8 (Or.inr ⟨rfl, by decide⟩) rfl ?_
  obtain ⟨v_3, ev_3, hf⟩ := x_bind hf
  refine sh_getI i30_9 f30_55 ev_3 ?_
  cases hf
end
section
def j29_132 (k46 : Option Nat → Option Nat → Option Nat → Option Nat → Int32 → xH → Option xH) (o0 : Option Nat) (o1 : Option Nat) (o2 : Option Nat) (o3 : Option Nat) (x4 : Int32) (o5 : Option Nat) (h : xH) : Option xH := (xcv h o0 3).bind fun _ => (fn32 o0 h).bind fun h_1 => k46 o0 o1 o2 o3 (x4 + 1) h_1
theorem j29_132_ok {xs : List Int32} {d : Nat} (hd : 4 ≤ d) {k46 : Option Nat → Option Nat → Option Nat → Option Nat → Int32 → xH → Option xH} (hk46 : ∀ {u5 : Value} {o0 : Option Nat} {o1 : Option Nat} {o2 : Option Nat} {o3 : Option Nat} {x4 : Int32} {h : xH} {r : xH}, u5.category = 1 → k46 o0 o1 o2 o3 x4 h = some r → xEv (xTa xs) d 29 (46, [xrv o0, xrv o1, xrv o2, xrv o3, .int x4, u5], [], h) (none, r)) {o0 : Option Nat} {o1 : Option Nat} {o2 : Option Nat} {o3 : Option Nat} {x4 : Int32} {o5 : Option Nat} {h : xH} {r : xH} (hf : j29_132 k46 o0 o1 o2 o3 x4 o5 h = some r) : xEv (xTa xs) d 29 (132, [xrv o0, xrv o1, xrv o2, xrv o3, .int x4, xrv o5], [], h) (none, r) := by
  unfold j29_132 at hf
  refine sh_aload (i' := 0) (n := 1) i29_132 (Or.inr ⟨rfl, by decide⟩) rfl ?_
  obtain ⟨_, eu_2, hf⟩ := x_bind hf
  obtain ⟨h_1, eh_1, hf⟩ := x_bind hf
  refine sh_inv (as := []) (z := (none, h_1)) i29_133 v29_215 (Or.inl ⟨by decide, rfl⟩) m32 rfl (Nat.le_of_ble_eq_true rfl) eu_2 (fn32_call (by omega) eh_1) ?_
  refine sh_inc (i' := 4) i29_136 rfl (xokst_of (Nat.le_of_ble_eq_true rfl) (xrv_cat (o3))) rfl ?_
  refine sh_goto (t := 46) i29_139 rfl ?_
  exact hk46 (xrv_cat (o5)) hf
def j29_86 (k46 : Option Nat → Option Nat → Option Nat → Option Nat → Int32 → xH → Option xH) (o0 : Option Nat) (o1 : Option Nat) (o2 : Option Nat) (o3 : Option Nat) (x4 : Int32) (o5 : Option Nat) (h : xH) : Option xH := (xgR h o0 3 2).bind fun a_1 => (xgR h o3 1 0).bind fun a_2 => (xgI h o5 6 2).bind fun v_3 => (xgI h o5 6 3).bind fun v_4 => (xcv h a_1 9).bind fun _ => (fn100 a_1 a_2 v_3 v_4 h).bind fun h_5 => (xgI h_5 o5 6 0).bind fun v_6 => (if v_6 = 2 then (xgR h_5 o0 3 2).bind fun a_8 => (xgR h_5 o5 6 7).bind fun a_9 => (xcv h_5 o1 5).bind fun _ => (fn58 o1 a_9 h_5).bind fun r_10 => (fn27 a_8 r_10.1 r_10.2).bind fun h_11 => j29_132 k46 o0 o1 o2 o3 x4 o5 h_11 else j29_132 k46 o0 o1 o2 o3 x4 o5 h_5)
theorem j29_86_ok {xs : List Int32} {d : Nat} (hd : 4 ≤ d) {k46 : Option Nat → Option Nat → Option Nat → Option Nat → Int32 → xH → Option xH} (hk46 : ∀ {u5 : Value} {o0 : Option Nat} {o1 : Option Nat} {o2 : Option Nat} {o3 : Option Nat} {x4 : Int32} {h : xH} {r : xH}, u5.category = 1 → k46 o0 o1 o2 o3 x4 h = some r → xEv (xTa xs) d 29 (46, [xrv o0, xrv o1, xrv o2, xrv o3, .int x4, u5], [], h) (none, r)) {o0 : Option Nat} {o1 : Option Nat} {o2 : Option Nat} {o3 : Option Nat} {x4 : Int32} {o5 : Option Nat} {h : xH} {r : xH} (hf : j29_86 k46 o0 o1 o2 o3 x4 o5 h = some r) : xEv (xTa xs) d 29 (86, [xrv o0, xrv o1, xrv o2, xrv o3, .int x4, xrv o5], [], h) (none, r) := by
  unfold j29_86 at hf
  refine sh_aload (i' := 0) (n := 1) i29_86 (Or.inr ⟨rfl, by decide⟩) rfl ?_
  obtain ⟨a_1, ea_1, hf⟩ := x_bind hf
  refine sh_getR i29_87 f29_22 ea_1 ?_
  refine sh_aload (i' := 3) (n := 1) i29_90 (Or.inr ⟨rfl, by decide⟩) rfl ?_
  obtain ⟨a_2, ea_2, hf⟩ := x_bind hf
  refine sh_getR i29_91 f29_172 ea_2 ?_
  refine sh_aload (i' := 5) (n := 2) i29_94 (Or.inl rfl) rfl ?_
  obtain ⟨v_3, ev_3, hf⟩ := x_bind hf
  refine sh_getI i29_96 f29_197 ev_3 ?_
  refine sh_aload (i' := 5) (n := 2) i29_99 (Or.inl rfl) rfl ?_
  obtain ⟨v_4, ev_4, hf⟩ := x_bind hf
  refine sh_getI i29_101 f29_200 ev_4 ?_
  obtain ⟨_, eu_13, hf⟩ := x_bind hf
  obtain ⟨h_5, eh_5, hf⟩ := x_bind hf
  refine sh_inv (as := [.int v_4, .int v_3, xrv a_2]) (z := (none, h_5)) i29_104 v29_203 (Or.inl ⟨by decide, rfl⟩) m100 rfl (Nat.le_of_ble_eq_true rfl) eu_13 (fn100_call (by omega) eh_5) ?_
  refine sh_aload (i' := 5) (n := 2) i29_107 (Or.inl rfl) rfl ?_
  obtain ⟨v_6, ev_6, hf⟩ := x_bind hf
  refine sh_getI i29_109 f29_206 ev_6 ?_
  refine ev_do i29_112 rfl ?_
  refine ev_icmp (t := 132) i29_113 rfl (fun c_7 => ?_) (fun c_7 => ?_)
  · replace hf := x_neg (show ¬ v_6 = 2 from c_7) hf
    exact j29_132_ok hd hk46 hf
  · replace hf := x_pos (show v_6 = 2 from Decidable.byContradiction (fun h9 => c_7 h9)) hf
    refine sh_aload (i' := 0) (n := 1) i29_116 (Or.inr ⟨rfl, by decide⟩) rfl ?_
    obtain ⟨a_8, ea_8, hf⟩ := x_bind hf
    refine sh_getR i29_117 f29_22 ea_8 ?_
    refine sh_aload (i' := 1) (n := 1) i29_120 (Or.inr ⟨rfl, by decide⟩) rfl ?_
    refine sh_aload (i' := 5) (n := 2) i29_121 (Or.inl rfl) rfl ?_
    obtain ⟨a_9, ea_9, hf⟩ := x_bind hf
    refine sh_getR i29_123 f29_207 ea_9 ?_
    obtain ⟨_, eu_12, hf⟩ := x_bind hf
    obtain ⟨r_10, er_10, hf⟩ := x_bind hf
    refine sh_inv (as := [xrv a_9]) (z := (some (.int r_10.1), r_10.2)) i29_126 v29_211 (Or.inl ⟨by decide, rfl⟩) m58 rfl (by simp [xcat, xrv_cat, xc_i, xc_j, xc_a, xc_f]) eu_12 (fn58_call (by omega) er_10) ?_
    obtain ⟨h_11, eh_11, hf⟩ := x_bind hf
    refine ev_sta (as := [.int r_10.1, xrv a_8]) (z := (none, h_11)) i29_129 v29_127 (Or.inl rfl) m27 rfl (Nat.le_of_ble_eq_true rfl) (fn27_call (by omega) eh_11) ?_
    exact j29_132_ok hd hk46 hf
def l29_46  : Nat → Option Nat → Option Nat → Option Nat → Option Nat → Int32 → xH → Option xH
  | 0 => fun _ _ _ _ _ _ => none
  | n + 1 => fun o0 o1 o2 o3 x4 h => (xgI h o2 0 5).bind fun v_1 => (if v_1 ≤ x4 then some h else (xgI h o2 0 4).bind fun v_3 => (xcv h o3 1).bind fun _ => (fn6 o3 (v_3 + x4) h).bind fun r_4 => (if r_4.1 = none then some r_4.2 else (xgI r_4.2 r_4.1 6 6).bind fun v_6 => (if v_6 = 0 then (xcv r_4.2 o0 3).bind fun _ => (fn31 o0 r_4.2).bind fun h_8 => j29_86 (l29_46 n) o0 o1 o2 o3 x4 r_4.1 h_8 else j29_86 (l29_46 n) o0 o1 o2 o3 x4 r_4.1 r_4.2)))
theorem l29_46_ok {xs : List Int32} {d : Nat} (hd : 4 ≤ d) : ∀ (n : Nat) {u5 : Value} {o0 : Option Nat} {o1 : Option Nat} {o2 : Option Nat} {o3 : Option Nat} {x4 : Int32} {h : xH} {r : xH} (hu5 : u5.category = 1), l29_46 n o0 o1 o2 o3 x4 h = some r → xEv (xTa xs) d 29 (46, [xrv o0, xrv o1, xrv o2, xrv o3, .int x4, u5], [], h) (none, r) := by
  intro n
  induction n with
  | zero => intros; rename_i hf; cases hf
  | succ n ih =>
    intro u5 o0 o1 o2 o3 x4 h r hu5 hf
    replace hf : ((xgI h o2 0 5).bind fun v_1 => (if v_1 ≤ x4 then some h else (xgI h o2 0 4).bind fun v_3 => (xcv h o3 1).bind fun _ => (fn6 o3 (v_3 + x4) h).bind fun r_4 => (if r_4.1 = none then some r_4.2 else (xgI r_4.2 r_4.1 6 6).bind fun v_6 => (if v_6 = 0 then (xcv r_4.2 o0 3).bind fun _ => (fn31 o0 r_4.2).bind fun h_8 => j29_86 (l29_46 n) o0 o1 o2 o3 x4 r_4.1 h_8 else j29_86 (l29_46 n) o0 o1 o2 o3 x4 r_4.1 r_4.2)))) = some r := hf
    refine ev_do i29_46 rfl ?_
    refine sh_aload (i' := 2) (n := 1) i29_48 (Or.inr ⟨rfl, by decide⟩) rfl ?_
    obtain ⟨v_1, ev_1, hf⟩ := x_bind hf
    refine sh_getI i29_49 f29_179 ev_1 ?_
    refine ev_icmp (t := 142) i29_52 rfl (fun c_2 => ?_) (fun c_2 => ?_)
    · replace hf := x_pos (show v_1 ≤ x4 from c_2) hf
      obtain rfl := Option.some.inj hf
      exact sh_vret i29_142 m29 rfl
    · replace hf := x_neg (show ¬ v_1 ≤ x4 from c_2) hf
      refine sh_aload (i' := 3) (n := 1) i29_55 (Or.inr ⟨rfl, by decide⟩) rfl ?_
      refine sh_aload (i' := 2) (n := 1) i29_56 (Or.inr ⟨rfl, by decide⟩) rfl ?_
      obtain ⟨v_3, ev_3, hf⟩ := x_bind hf
      refine sh_getI i29_57 f29_182 ev_3 ?_
      refine ev_do i29_60 rfl ?_
      refine ev_do i29_62 rfl ?_
      obtain ⟨_, eu_10, hf⟩ := x_bind hf
      obtain ⟨r_4, er_4, hf⟩ := x_bind hf
      refine sh_inv (as := [.int (v_3 + x4)]) (z := (some (xrv r_4.1), r_4.2)) i29_63 v29_185 (Or.inl ⟨by decide, rfl⟩) m6 rfl (Nat.le_of_ble_eq_true rfl) eu_10 (fn6_call (by omega) er_4) ?_
      refine sh_astore (i' := 5) (n := 2) i29_66 (Or.inl rfl) (xokst_of (Nat.le_of_ble_eq_true rfl) rfl) ?_
      refine sh_aload (i' := 5) (n := 2) i29_68 (Or.inl rfl) rfl ?_
      refine sh_nnul (t := 74) i29_70 rfl (fun c_5 => ?_) (fun c_5 => ?_)
      · replace hf := x_pos c_5 hf
        obtain rfl := Option.some.inj hf
        exact sh_vret i29_73 m29 rfl
      · replace hf := x_neg c_5 hf
        refine sh_aload (i' := 5) (n := 2) i29_74 (Or.inl rfl) rfl ?_
        obtain ⟨v_6, ev_6, hf⟩ := x_bind hf
        refine sh_getI i29_76 f29_189 ev_6 ?_
        refine ev_if (t := 86) i29_79 rfl (fun c_7 => ?_) (fun c_7 => ?_)
        · replace hf := x_neg (show ¬ v_6 = 0 from c_7) hf
          exact j29_86_ok hd ih hf
        · replace hf := x_pos (show v_6 = 0 from Decidable.byContradiction (fun h9 => c_7 h9)) hf
          refine sh_aload (i' := 0) (n := 1) i29_82 (Or.inr ⟨rfl, by decide⟩) rfl ?_
          obtain ⟨_, eu_9, hf⟩ := x_bind hf
          obtain ⟨h_8, eh_8, hf⟩ := x_bind hf
          refine sh_inv (as := []) (z := (none, h_8)) i29_83 v29_194 (Or.inl ⟨by decide, rfl⟩) m31 rfl (Nat.le_of_ble_eq_true rfl) eu_9 (fn31_call (by omega) eh_8) ?_
          exact j29_86_ok hd ih hf
def j29_43  (o0 : Option Nat) (o1 : Option Nat) (o2 : Option Nat) (o3 : Option Nat) (h : xH) : Option xH := l29_46 xFuel o0 o1 o2 o3 0 h
theorem j29_43_ok {xs : List Int32} {d : Nat} (hd : 4 ≤ d) {u4 : Value} {u5 : Value} {o0 : Option Nat} {o1 : Option Nat} {o2 : Option Nat} {o3 : Option Nat} {h : xH} {r : xH} (hu4 : u4.category = 1) (hu5 : u5.category = 1) (hf : j29_43 o0 o1 o2 o3 h = some r) : xEv (xTa xs) d 29 (43, [xrv o0, xrv o1, xrv o2, xrv o3, u4, u5], [], h) (none, r) := by
  unfold j29_43 at hf
  refine ev_do i29_43 rfl ?_
  refine sh_istore (i' := 4) (n := 2) i29_44 (Or.inl rfl) (xokst_of (Nat.le_of_ble_eq_true rfl) (xrv_cat (o3))) ?_
  exact l29_46_ok hd xFuel hu5 hf
def fn29 (o0 : Option Nat) (o1 : Option Nat) (o2 : Option Nat) (h : xH) : Option xH := (xgR h o0 3 2).bind fun a_1 => (xcv h a_1 9).bind fun _ => (fn101 a_1 0 h).bind fun h_2 => (xpF h_2 o0 3 4 .int (.int 0)).bind fun h_3 => (xgR h_3 o2 0 0).bind fun a_4 => (if a_4 = none then some h_3 else (xgI h_3 o2 0 1).bind fun v_6 => (fn138 v_6 h_3).bind fun r_7 => (if r_7.1 = 0 then j29_43 o0 o1 o2 a_4 r_7.2 else (xgR r_7.2 a_4 1 0).bind fun a_9 => (xcv r_7.2 o0 3).bind fun _ => (fn30 o0 o1 o2 a_9 r_7.2).bind fun h_10 => j29_43 o0 o1 o2 a_4 h_10))
theorem fn29_call {xs : List Int32} {d : Nat} (hd : 5 ≤ d) {o0 : Option Nat} {o1 : Option Nat} {o2 : Option Nat} {h : xH} {r : xH} (hf : fn29 o0 o1 o2 h = some r) : xCall (xTa xs) d 29 [xrv o0, xrv o1, xrv o2] h (none, r) := by
  obtain ⟨d, rfl⟩ : ∃ d2, d = d2 + 1 := ⟨d - 1, by omega⟩
  replace hd : 4 ≤ d := by omega
  refine call_of2 (fl := [xrv o0, xrv o1, xrv o2]) (Ls := [xrv o0, xrv o1, xrv o2, .float 0, .float 0, .float 0]) m29 (by simp [xfl, xrv_cat, xc_i, xc_j, xc_a, xc_f]) (Nat.le_of_ble_eq_true rfl) rfl ?_
  unfold fn29 at hf
  refine sh_aload (i' := 0) (n := 1) i29_0 (Or.inr ⟨rfl, by decide⟩) rfl ?_
  obtain ⟨a_1, ea_1, hf⟩ := x_bind hf
  refine sh_getR i29_1 f29_22 ea_1 ?_
  refine ev_do i29_4 rfl ?_
  obtain ⟨_, eu_12, hf⟩ := x_bind hf
  obtain ⟨h_2, eh_2, hf⟩ := x_bind hf
  refine sh_inv (as := [.int 0]) (z := (none, h_2)) i29_5 v29_124 (Or.inl ⟨by decide, rfl⟩) m101 rfl (Nat.le_of_ble_eq_true rfl) eu_12 (fn101_call (by omega) eh_2) ?_
  refine sh_aload (i' := 0) (n := 1) i29_8 (Or.inr ⟨rfl, by decide⟩) rfl ?_
  refine ev_do i29_9 rfl ?_
  obtain ⟨h_3, eh_3, hf⟩ := x_bind hf
  refine sh_put i29_10 f29_166 (by decide) rfl eh_3 ?_
  refine sh_aload (i' := 2) (n := 1) i29_13 (Or.inr ⟨rfl, by decide⟩) rfl ?_
  obtain ⟨a_4, ea_4, hf⟩ := x_bind hf
  refine sh_getR i29_14 f29_76 ea_4 ?_
  refine sh_astore (i' := 3) (n := 1) i29_17 (Or.inr ⟨rfl, by decide⟩) (xokst_of (Nat.le_of_ble_eq_true rfl) (xrv_cat (o2))) ?_
  refine sh_aload (i' := 3) (n := 1) i29_18 (Or.inr ⟨rfl, by decide⟩) rfl ?_
  refine sh_nnul (t := 23) i29_19 rfl (fun c_5 => ?_) (fun c_5 => ?_)
  · replace hf := x_pos c_5 hf
    obtain rfl := Option.some.inj hf
    exact sh_vret i29_22 m29 rfl
  · replace hf := x_neg c_5 hf
    refine sh_aload (i' := 2) (n := 1) i29_23 (Or.inr ⟨rfl, by decide⟩) rfl ?_
    obtain ⟨v_6, ev_6, hf⟩ := x_bind hf
    refine sh_getI i29_24 f29_55 ev_6 ?_
    obtain ⟨r_7, er_7, hf⟩ := x_bind hf
    refine ev_sta (as := [.int v_6]) (z := (some (.int r_7.1), r_7.2)) i29_27 v29_68 (Or.inr rfl) m138 rfl (Nat.le_of_ble_eq_true rfl) (fn138_call (by omega) er_7) ?_
    refine ev_if (t := 43) i29_30 rfl (fun c_8 => ?_) (fun c_8 => ?_)
    · replace hf := x_pos (show r_7.1 = 0 from c_8) hf
      exact j29_43_ok hd rfl rfl hf
    · replace hf := x_neg (show ¬ r_7.1 = 0 from c_8) hf
      refine sh_aload (i' := 0) (n := 1) i29_33 (Or.inr ⟨rfl, by decide⟩) rfl ?_
      refine sh_aload (i' := 1) (n := 1) i29_34 (Or.inr ⟨rfl, by decide⟩) rfl ?_
      refine sh_aload (i' := 2) (n := 1) i29_35 (Or.inr ⟨rfl, by decide⟩) rfl ?_
      refine sh_aload (i' := 3) (n := 1) i29_36 (Or.inr ⟨rfl, by decide⟩) rfl ?_
      obtain ⟨a_9, ea_9, hf⟩ := x_bind hf
      refine sh_getR i29_37 f29_172 ea_9 ?_
      obtain ⟨_, eu_11, hf⟩ := x_bind hf
      obtain ⟨h_10, eh_10, hf⟩ := x_bind hf
      refine sh_inv (as := [xrv a_9, xrv o2, xrv o1]) (z := (none, h_10)) i29_40 v29_175 (Or.inl ⟨by decide, rfl⟩) m30 rfl (Nat.le_of_ble_eq_true rfl) eu_11 (fn30_call (by omega) eh_10) ?_
      exact j29_43_ok hd rfl rfl hf
end
section
def j34_28  (o0 : Option Nat) (x1 : Int32) (s0 : Int32) (h : xH) : Option (Int32 × xH) := some (s0, h)
theorem j34_28_ok {xs : List Int32} {d : Nat} (hd : 1 ≤ d) {o0 : Option Nat} {x1 : Int32} {s0 : Int32} {h : xH} {r : (Int32 × xH)} (hf : j34_28 o0 x1 s0 h = some r) : xEv (xTa xs) d 34 (28, [xrv o0, .int x1], [.int s0], h) (some (.int r.1), r.2) := by
  unfold j34_28 at hf
  obtain rfl := Option.some.inj hf
  exact sh_iret i34_28 m34 rfl rfl
def j34_12  (o0 : Option Nat) (x1 : Int32) (h : xH) : Option (Int32 × xH) := (xgR h o0 3 2).bind fun a_1 => (xgI h a_1 9 1).bind fun v_2 => j34_28 o0 x1 v_2 h
theorem j34_12_ok {xs : List Int32} {d : Nat} (hd : 1 ≤ d) {o0 : Option Nat} {x1 : Int32} {h : xH} {r : (Int32 × xH)} (hf : j34_12 o0 x1 h = some r) : xEv (xTa xs) d 34 (12, [xrv o0, .int x1], [], h) (some (.int r.1), r.2) := by
  unfold j34_12 at hf
  refine sh_aload (i' := 0) (n := 1) i34_12 (Or.inr ⟨rfl, by decide⟩) rfl ?_
  obtain ⟨a_1, ea_1, hf⟩ := x_bind hf
  refine sh_getR i34_13 f34_22 ea_1 ?_
  obtain ⟨v_2, ev_2, hf⟩ := x_bind hf
  refine sh_getI i34_16 f34_131 ev_2 ?_
  refine sh_goto (t := 28) i34_19 rfl ?_
  exact j34_28_ok hd hf
def fn34 (o0 : Option Nat) (x1 : Int32) (h : xH) : Option (Int32 × xH) := (if x1 < 0 then j34_12 o0 x1 h else (xgI h o0 3 4).bind fun v_2 => (if x1 ≤ v_2 then (xgR h o0 3 3).bind fun a_4 => (xaI h 13 a_4 x1).bind fun v_5 => j34_28 o0 x1 v_5 h else j34_12 o0 x1 h))
theorem fn34_call {xs : List Int32} {d : Nat} (hd : 2 ≤ d) {o0 : Option Nat} {x1 : Int32} {h : xH} {r : (Int32 × xH)} (hf : fn34 o0 x1 h = some r) : xCall (xTa xs) d 34 [xrv o0, .int x1] h (some (.int r.1), r.2) := by
  obtain ⟨d, rfl⟩ : ∃ d2, d = d2 + 1 := ⟨d - 1, by omega⟩
  replace hd : 1 ≤ d := by omega
  refine call_of2 (fl := [xrv o0, .int x1]) (Ls := [xrv o0, .int x1]) m34 (by simp [xfl, xrv_cat, xc_i, xc_j, xc_a, xc_f]) (Nat.le_of_ble_eq_true rfl) rfl ?_
  unfold fn34 at hf
  refine ev_do i34_0 rfl ?_
  refine ev_if (t := 12) i34_1 rfl (fun c_1 => ?_) (fun c_1 => ?_)
  · replace hf := x_pos (show x1 < 0 from c_1) hf
    exact j34_12_ok hd hf
  · replace hf := x_neg (show ¬ x1 < 0 from c_1) hf
    refine ev_do i34_4 rfl ?_
    refine sh_aload (i' := 0) (n := 1) i34_5 (Or.inr ⟨rfl, by decide⟩) rfl ?_
    obtain ⟨v_2, ev_2, hf⟩ := x_bind hf
    refine sh_getI i34_6 f34_166 ev_2 ?_
    refine ev_icmp (t := 22) i34_9 rfl (fun c_3 => ?_) (fun c_3 => ?_)
    · replace hf := x_pos (show x1 ≤ v_2 from c_3) hf
      refine sh_aload (i' := 0) (n := 1) i34_22 (Or.inr ⟨rfl, by decide⟩) rfl ?_
      obtain ⟨a_4, ea_4, hf⟩ := x_bind hf
      refine sh_getR i34_23 f34_26 ea_4 ?_
      refine ev_do i34_26 rfl ?_
      obtain ⟨v_5, ev_5, hf⟩ := x_bind hf
      refine sh_aldI (tg := 13) i34_27 (Or.inl ⟨rfl, rfl⟩) ev_5 ?_
      exact j34_28_ok hd hf
    · replace hf := x_neg (show ¬ x1 ≤ v_2 from c_3) hf
      exact j34_12_ok hd hf
end
section
def j33_15  (o0 : Option Nat) (x1 : Int32) (x2 : Int32) (s0 : Int32) (h : xH) : Option (Int32 × xH) := (xcv h o0 3).bind fun _ => (fn34 o0 x2 h).bind fun r_1 => (xcv r_1.2 o0 3).bind fun _ => (fn34 o0 x1 r_1.2).bind fun r_2 => some (((((s0 + r_1.1) - r_2.1) + x2) - x1) - 1, r_2.2)
theorem j33_15_ok {xs : List Int32} {d : Nat} (hd : 2 ≤ d) {u3 : Value} {o0 : Option Nat} {x1 : Int32} {x2 : Int32} {s0 : Int32} {h : xH} {r : (Int32 × xH)} (hu3 : u3.category = 1) (hf : j33_15 o0 x1 x2 s0 h = some r) : xEv (xTa xs) d 33 (15, [xrv o0, .int x1, .int x2, u3], [.int s0], h) (some (.int r.1), r.2) := by
  unfold j33_15 at hf
  refine sh_istore (i' := 3) (n := 1) i33_15 (Or.inr ⟨rfl, by decide⟩) (xokst_of (Nat.le_of_ble_eq_true rfl) rfl) ?_
  refine ev_do i33_16 rfl ?_
  refine sh_aload (i' := 0) (n := 1) i33_17 (Or.inr ⟨rfl, by decide⟩) rfl ?_
  refine ev_do i33_18 rfl ?_
  obtain ⟨_, eu_4, hf⟩ := x_bind hf
  obtain ⟨r_1, er_1, hf⟩ := x_bind hf
  refine sh_inv (as := [.int x2]) (z := (some (.int r_1.1), r_1.2)) i33_19 v33_237 (Or.inl ⟨by decide, rfl⟩) m34 rfl (Nat.le_of_ble_eq_true rfl) eu_4 (fn34_call (by omega) er_1) ?_
  refine ev_do i33_22 rfl ?_
  refine sh_aload (i' := 0) (n := 1) i33_23 (Or.inr ⟨rfl, by decide⟩) rfl ?_
  refine ev_do i33_24 rfl ?_
  obtain ⟨_, eu_3, hf⟩ := x_bind hf
  obtain ⟨r_2, er_2, hf⟩ := x_bind hf
  refine sh_inv (as := [.int x1]) (z := (some (.int r_2.1), r_2.2)) i33_25 v33_237 (Or.inl ⟨by decide, rfl⟩) m34 rfl (Nat.le_of_ble_eq_true rfl) eu_3 (fn34_call (by omega) er_2) ?_
  refine ev_do i33_28 rfl ?_
  refine ev_do i33_29 rfl ?_
  refine ev_do i33_30 rfl ?_
  refine ev_do i33_31 rfl ?_
  refine ev_do i33_32 rfl ?_
  refine ev_do i33_33 rfl ?_
  refine ev_do i33_34 rfl ?_
  obtain rfl := Option.some.inj hf
  exact sh_iret i33_35 m33 rfl rfl
def fn33 (o0 : Option Nat) (x1 : Int32) (x2 : Int32) (h : xH) : Option (Int32 × xH) := (if x1 = 0 then (xgI h o0 3 8).bind fun v_2 => j33_15 o0 x1 x2 v_2 h else (xgI h o0 3 9).bind fun v_3 => j33_15 o0 x1 x2 v_3 h)
theorem fn33_call {xs : List Int32} {d : Nat} (hd : 3 ≤ d) {o0 : Option Nat} {x1 : Int32} {x2 : Int32} {h : xH} {r : (Int32 × xH)} (hf : fn33 o0 x1 x2 h = some r) : xCall (xTa xs) d 33 [xrv o0, .int x1, .int x2] h (some (.int r.1), r.2) := by
  obtain ⟨d, rfl⟩ : ∃ d2, d = d2 + 1 := ⟨d - 1, by omega⟩
  replace hd : 2 ≤ d := by omega
  refine call_of2 (fl := [xrv o0, .int x1, .int x2]) (Ls := [xrv o0, .int x1, .int x2, .float 0]) m33 (by simp [xfl, xrv_cat, xc_i, xc_j, xc_a, xc_f]) (Nat.le_of_ble_eq_true rfl) rfl ?_
  unfold fn33 at hf
  refine ev_do i33_0 rfl ?_
  refine ev_if (t := 11) i33_1 rfl (fun c_1 => ?_) (fun c_1 => ?_)
  · replace hf := x_neg (show ¬ x1 = 0 from c_1) hf
    refine sh_aload (i' := 0) (n := 1) i33_11 (Or.inr ⟨rfl, by decide⟩) rfl ?_
    obtain ⟨v_3, ev_3, hf⟩ := x_bind hf
    refine sh_getI i33_12 f33_154 ev_3 ?_
    exact j33_15_ok hd rfl hf
  · replace hf := x_pos (show x1 = 0 from Decidable.byContradiction (fun h9 => c_1 h9)) hf
    refine sh_aload (i' := 0) (n := 1) i33_4 (Or.inr ⟨rfl, by decide⟩) rfl ?_
    obtain ⟨v_2, ev_2, hf⟩ := x_bind hf
    refine sh_getI i33_5 f33_151 ev_2 ?_
    refine sh_goto (t := 15) i33_8 rfl ?_
    exact j33_15_ok hd rfl hf
end
section
def j35_33  (o0 : Option Nat) (x1 : Int32) (x2 : Int32) (h : xH) : Option (Int32 × xH) := some (x2, h)
theorem j35_33_ok {xs : List Int32} {d : Nat} (hd : 3 ≤ d) {o0 : Option Nat} {x1 : Int32} {x2 : Int32} {h : xH} {r : (Int32 × xH)} (hf : j35_33 o0 x1 x2 h = some r) : xEv (xTa xs) d 35 (33, [xrv o0, .int x1, .int x2], [], h) (some (.int r.1), r.2) := by
  unfold j35_33 at hf
  refine ev_do i35_33 rfl ?_
  obtain rfl := Option.some.inj hf
  exact sh_iret i35_34 m35 rfl rfl
def l35_4  : Nat → Option Nat → Int32 → Int32 → xH → Option (Int32 × xH)
  | 0 => fun _ _ _ _ => none
  | n + 1 => fun o0 x1 x2 h => (xgI h o0 3 4).bind fun v_1 => (if v_1 ≤ x2 then j35_33 o0 x1 x2 h else (xcv h o0 3).bind fun _ => (fn33 o0 x1 (x2 + 1) h).bind fun r_3 => (xgI r_3.2 o0 3 7).bind fun v_4 => (if v_4 < r_3.1 then j35_33 o0 x1 x2 r_3.2 else l35_4 n o0 x1 (x2 + 1) r_3.2))
theorem l35_4_ok {xs : List Int32} {d : Nat} (hd : 3 ≤ d) : ∀ (n : Nat) {o0 : Option Nat} {x1 : Int32} {x2 : Int32} {h : xH} {r : (Int32 × xH)}, l35_4 n o0 x1 x2 h = some r → xEv (xTa xs) d 35 (4, [xrv o0, .int x1, .int x2], [], h) (some (.int r.1), r.2) := by
  intro n
  induction n with
  | zero => intros; rename_i hf; cases hf
  | succ n ih =>
    intro o0 x1 x2 h r hf
    replace hf : ((xgI h o0 3 4).bind fun v_1 => (if v_1 ≤ x2 then j35_33 o0 x1 x2 h else (xcv h o0 3).bind fun _ => (fn33 o0 x1 (x2 + 1) h).bind fun r_3 => (xgI r_3.2 o0 3 7).bind fun v_4 => (if v_4 < r_3.1 then j35_33 o0 x1 x2 r_3.2 else l35_4 n o0 x1 (x2 + 1) r_3.2))) = some r := hf
    refine ev_do i35_4 rfl ?_
    refine sh_aload (i' := 0) (n := 1) i35_5 (Or.inr ⟨rfl, by decide⟩) rfl ?_
    obtain ⟨v_1, ev_1, hf⟩ := x_bind hf
    refine sh_getI i35_6 f35_166 ev_1 ?_
    refine ev_icmp (t := 33) i35_9 rfl (fun c_2 => ?_) (fun c_2 => ?_)
    · replace hf := x_pos (show v_1 ≤ x2 from c_2) hf
      exact j35_33_ok hd hf
    · replace hf := x_neg (show ¬ v_1 ≤ x2 from c_2) hf
      refine sh_aload (i' := 0) (n := 1) i35_12 (Or.inr ⟨rfl, by decide⟩) rfl ?_
      refine ev_do i35_13 rfl ?_
      refine ev_do i35_14 rfl ?_
      refine ev_do i35_15 rfl ?_
      refine ev_do i35_16 rfl ?_
      obtain ⟨_, eu_6, hf⟩ := x_bind hf
      obtain ⟨r_3, er_3, hf⟩ := x_bind hf
      refine sh_inv (as := [.int (x2 + 1), .int x1]) (z := (some (.int r_3.1), r_3.2)) i35_17 v35_241 (Or.inl ⟨by decide, rfl⟩) m33 rfl (Nat.le_of_ble_eq_true rfl) eu_6 (fn33_call (by omega) er_3) ?_
      refine sh_aload (i' := 0) (n := 1) i35_20 (Or.inr ⟨rfl, by decide⟩) rfl ?_
      obtain ⟨v_4, ev_4, hf⟩ := x_bind hf
      refine sh_getI i35_21 f35_83 ev_4 ?_
      refine ev_icmp (t := 33) i35_24 rfl (fun c_5 => ?_) (fun c_5 => ?_)
      · replace hf := x_pos (show v_4 < r_3.1 from c_5) hf
        exact j35_33_ok hd hf
      · replace hf := x_neg (show ¬ v_4 < r_3.1 from c_5) hf
        refine sh_inc (i' := 2) i35_27 rfl (xokst_of (Nat.le_of_ble_eq_true rfl) rfl) rfl ?_
        refine sh_goto (t := 4) i35_30 rfl ?_
        exact ih hf
def fn35 (o0 : Option Nat) (x1 : Int32) (h : xH) : Option (Int32 × xH) := l35_4 xFuel o0 x1 (x1 + 1) h
theorem fn35_call {xs : List Int32} {d : Nat} (hd : 4 ≤ d) {o0 : Option Nat} {x1 : Int32} {h : xH} {r : (Int32 × xH)} (hf : fn35 o0 x1 h = some r) : xCall (xTa xs) d 35 [xrv o0, .int x1] h (some (.int r.1), r.2) := by
  obtain ⟨d, rfl⟩ : ∃ d2, d = d2 + 1 := ⟨d - 1, by omega⟩
  replace hd : 3 ≤ d := by omega
  refine call_of2 (fl := [xrv o0, .int x1]) (Ls := [xrv o0, .int x1, .float 0]) m35 (by simp [xfl, xrv_cat, xc_i, xc_j, xc_a, xc_f]) (Nat.le_of_ble_eq_true rfl) rfl ?_
  unfold fn35 at hf
  refine ev_do i35_0 rfl ?_
  refine ev_do i35_1 rfl ?_
  refine ev_do i35_2 rfl ?_
  refine sh_istore (i' := 2) (n := 1) i35_3 (Or.inr ⟨rfl, by decide⟩) (xokst_of (Nat.le_of_ble_eq_true rfl) rfl) ?_
  exact l35_4_ok hd xFuel hf
end
section
def l37_2  : Nat → Option Nat → Int32 → xH → Option xH
  | 0 => fun _ _ _ => none
  | n + 1 => fun o0 x1 h => (xgI h o0 3 4).bind fun v_1 => (if v_1 ≤ x1 then some h else (xgR h o0 3 5).bind fun a_3 => (xcv h o0 3).bind fun _ => (fn35 o0 x1 h).bind fun r_4 => (xaS r_4.2 13 (fun x => x) a_3 x1 r_4.1).bind fun h_5 => l37_2 n o0 (x1 + 1) h_5)
theorem l37_2_ok {xs : List Int32} {d : Nat} (hd : 4 ≤ d) : ∀ (n : Nat) {o0 : Option Nat} {x1 : Int32} {h : xH} {r : xH}, l37_2 n o0 x1 h = some r → xEv (xTa xs) d 37 (2, [xrv o0, .int x1], [], h) (none, r) := by
  intro n
  induction n with
  | zero => intros; rename_i hf; cases hf
  | succ n ih =>
    intro o0 x1 h r hf
    replace hf : ((xgI h o0 3 4).bind fun v_1 => (if v_1 ≤ x1 then some h else (xgR h o0 3 5).bind fun a_3 => (xcv h o0 3).bind fun _ => (fn35 o0 x1 h).bind fun r_4 => (xaS r_4.2 13 (fun x => x) a_3 x1 r_4.1).bind fun h_5 => l37_2 n o0 (x1 + 1) h_5)) = some r := hf
    refine ev_do i37_2 rfl ?_
    refine sh_aload (i' := 0) (n := 1) i37_3 (Or.inr ⟨rfl, by decide⟩) rfl ?_
    obtain ⟨v_1, ev_1, hf⟩ := x_bind hf
    refine sh_getI i37_4 f37_166 ev_1 ?_
    refine ev_icmp (t := 27) i37_7 rfl (fun c_2 => ?_) (fun c_2 => ?_)
    · replace hf := x_pos (show v_1 ≤ x1 from c_2) hf
      obtain rfl := Option.some.inj hf
      exact sh_vret i37_27 m37 rfl
    · replace hf := x_neg (show ¬ v_1 ≤ x1 from c_2) hf
      refine sh_aload (i' := 0) (n := 1) i37_10 (Or.inr ⟨rfl, by decide⟩) rfl ?_
      obtain ⟨a_3, ea_3, hf⟩ := x_bind hf
      refine sh_getR i37_11 f37_30 ea_3 ?_
      refine ev_do i37_14 rfl ?_
      refine sh_aload (i' := 0) (n := 1) i37_15 (Or.inr ⟨rfl, by decide⟩) rfl ?_
      refine ev_do i37_16 rfl ?_
      obtain ⟨_, eu_6, hf⟩ := x_bind hf
      obtain ⟨r_4, er_4, hf⟩ := x_bind hf
      refine sh_inv (as := [.int x1]) (z := (some (.int r_4.1), r_4.2)) i37_17 v37_250 (Or.inl ⟨by decide, rfl⟩) m35 rfl (by simp [xcat, xrv_cat, xc_i, xc_j, xc_a, xc_f]) eu_6 (fn35_call (by omega) er_4) ?_
      obtain ⟨h_5, eh_5, hf⟩ := x_bind hf
      refine sh_ast (tg := 13) i37_20 (Or.inl ⟨rfl, rfl, rfl⟩) eh_5 ?_
      refine sh_inc (i' := 1) i37_21 rfl (xokst_of (Nat.le_of_ble_eq_true rfl) (xrv_cat (o0))) rfl ?_
      refine sh_goto (t := 2) i37_24 rfl ?_
      exact ih hf
def fn37 (o0 : Option Nat) (h : xH) : Option xH := l37_2 xFuel o0 0 h
theorem fn37_call {xs : List Int32} {d : Nat} (hd : 5 ≤ d) {o0 : Option Nat} {h : xH} {r : xH} (hf : fn37 o0 h = some r) : xCall (xTa xs) d 37 [xrv o0] h (none, r) := by
  obtain ⟨d, rfl⟩ : ∃ d2, d = d2 + 1 := ⟨d - 1, by omega⟩
  replace hd : 4 ≤ d := by omega
  refine call_of2 (fl := [xrv o0]) (Ls := [xrv o0, .float 0]) m37 (by simp [xfl, xrv_cat, xc_i, xc_j, xc_a, xc_f]) (Nat.le_of_ble_eq_true rfl) rfl ?_
  unfold fn37 at hf
  refine ev_do i37_0 rfl ?_
  refine sh_istore (i' := 1) (n := 1) i37_1 (Or.inr ⟨rfl, by decide⟩) (xokst_of (Nat.le_of_ble_eq_true rfl) (xrv_cat (o0))) ?_
  exact l37_2_ok hd xFuel hf
end
section
def j36_27  (o0 : Option Nat) (x1 : Int32) (x2 : Int32) (s0 : Int32) (h : xH) : Option (Int32 × xH) := some (s0 * s0, h)
theorem j36_27_ok {xs : List Int32} {d : Nat} (hd : 3 ≤ d) {u3 : Value} {o0 : Option Nat} {x1 : Int32} {x2 : Int32} {s0 : Int32} {h : xH} {r : (Int32 × xH)} (hu3 : u3.category = 1) (hf : j36_27 o0 x1 x2 s0 h = some r) : xEv (xTa xs) d 36 (27, [xrv o0, .int x1, .int x2, u3], [.int s0], h) (some (.int r.1), r.2) := by
  unfold j36_27 at hf
  refine sh_istore (i' := 3) (n := 1) i36_27 (Or.inr ⟨rfl, by decide⟩) (xokst_of (Nat.le_of_ble_eq_true rfl) rfl) ?_
  refine ev_do i36_28 rfl ?_
  refine ev_do i36_29 rfl ?_
  refine ev_do i36_30 rfl ?_
  obtain rfl := Option.some.inj hf
  exact sh_iret i36_31 m36 rfl rfl
def fn36 (o0 : Option Nat) (x1 : Int32) (x2 : Int32) (h : xH) : Option (Int32 × xH) := (xgI h o0 3 4).bind fun v_1 => (if v_1 ≤ x2 then j36_27 o0 x1 x2 0 h else (xgI h o0 3 7).bind fun v_3 => (xcv h o0 3).bind fun _ => (fn33 o0 x1 x2 h).bind fun r_4 => j36_27 o0 x1 x2 (xmax 0 (v_3 - r_4.1)) r_4.2)
theorem fn36_call {xs : List Int32} {d : Nat} (hd : 4 ≤ d) {o0 : Option Nat} {x1 : Int32} {x2 : Int32} {h : xH} {r : (Int32 × xH)} (hf : fn36 o0 x1 x2 h = some r) : xCall (xTa xs) d 36 [xrv o0, .int x1, .int x2] h (some (.int r.1), r.2) := by
  obtain ⟨d, rfl⟩ : ∃ d2, d = d2 + 1 := ⟨d - 1, by omega⟩
  replace hd : 3 ≤ d := by omega
  refine call_of2 (fl := [xrv o0, .int x1, .int x2]) (Ls := [xrv o0, .int x1, .int x2, .float 0]) m36 (by simp [xfl, xrv_cat, xc_i, xc_j, xc_a, xc_f]) (Nat.le_of_ble_eq_true rfl) rfl ?_
  unfold fn36 at hf
  refine ev_do i36_0 rfl ?_
  refine sh_aload (i' := 0) (n := 1) i36_1 (Or.inr ⟨rfl, by decide⟩) rfl ?_
  obtain ⟨v_1, ev_1, hf⟩ := x_bind hf
  refine sh_getI i36_2 f36_166 ev_1 ?_
  refine ev_icmp (t := 26) i36_5 rfl (fun c_2 => ?_) (fun c_2 => ?_)
  · replace hf := x_pos (show v_1 ≤ x2 from c_2) hf
    refine ev_do i36_26 rfl ?_
    exact j36_27_ok hd rfl hf
  · replace hf := x_neg (show ¬ v_1 ≤ x2 from c_2) hf
    refine ev_do i36_8 rfl ?_
    refine sh_aload (i' := 0) (n := 1) i36_9 (Or.inr ⟨rfl, by decide⟩) rfl ?_
    obtain ⟨v_3, ev_3, hf⟩ := x_bind hf
    refine sh_getI i36_10 f36_83 ev_3 ?_
    refine sh_aload (i' := 0) (n := 1) i36_13 (Or.inr ⟨rfl, by decide⟩) rfl ?_
    refine ev_do i36_14 rfl ?_
    refine ev_do i36_15 rfl ?_
    obtain ⟨_, eu_5, hf⟩ := x_bind hf
    obtain ⟨r_4, er_4, hf⟩ := x_bind hf
    refine sh_inv (as := [.int x2, .int x1]) (z := (some (.int r_4.1), r_4.2)) i36_16 v36_241 (Or.inl ⟨by decide, rfl⟩) m33 rfl (Nat.le_of_ble_eq_true rfl) eu_5 (fn33_call (by omega) er_4) ?_
    refine ev_do i36_19 rfl ?_
    refine sh_max i36_20 v36_245 (Nat.le_of_ble_eq_true rfl) ?_
    refine sh_goto (t := 27) i36_23 rfl ?_
    exact j36_27_ok hd rfl hf
end
section
def j38_103 (k17 : Option Nat → Int32 → xH → Option xH) (k57 : Option Nat → Int32 → Int32 → Int32 → xH → Option xH) (o0 : Option Nat) (x1 : Int32) (x2 : Int32) (x3 : Int32) (x4 : Int32) (h : xH) : Option xH := k57 o0 x1 x2 (x3 + (-1)) h
theorem j38_103_ok {xs : List Int32} {d : Nat} (hd : 4 ≤ d) {k17 : Option Nat → Int32 → xH → Option xH} {k57 : Option Nat → Int32 → Int32 → Int32 → xH → Option xH} (hk17 : ∀ {u2 : Value} {u3 : Value} {u4 : Value} {o0 : Option Nat} {x1 : Int32} {h : xH} {r : xH}, u2.category = 1 → u3.category = 1 → u4.category = 1 → k17 o0 x1 h = some r → xEv (xTa xs) d 38 (17, [xrv o0, .int x1, u2, u3, u4], [], h) (none, r)) (hk57 : ∀ {u4 : Value} {o0 : Option Nat} {x1 : Int32} {x2 : Int32} {x3 : Int32} {h : xH} {r : xH}, u4.category = 1 → k57 o0 x1 x2 x3 h = some r → xEv (xTa xs) d 38 (57, [xrv o0, .int x1, .int x2, .int x3, u4], [], h) (none, r)) {o0 : Option Nat} {x1 : Int32} {x2 : Int32} {x3 : Int32} {x4 : Int32} {h : xH} {r : xH} (hf : j38_103 k17 k57 o0 x1 x2 x3 x4 h = some r) : xEv (xTa xs) d 38 (103, [xrv o0, .int x1, .int x2, .int x3, .int x4], [], h) (none, r) := by
  unfold j38_103 at hf
  refine sh_inc (i' := 3) i38_103 rfl (xokst_of (Nat.le_of_ble_eq_true rfl) rfl) rfl ?_
  refine sh_goto (t := 57) i38_106 rfl ?_
  exact hk57 rfl hf
def l38_57 (k17 : Option Nat → Int32 → xH → Option xH) : Nat → Option Nat → Int32 → Int32 → Int32 → xH → Option xH
  | 0 => fun _ _ _ _ _ => none
  | n + 1 => fun o0 x1 x2 x3 h => (if x3 ≤ x1 then k17 o0 (x1 + (-1)) h else (xcv h o0 3).bind fun _ => (fn36 o0 x1 x3 h).bind fun r_2 => (xgR r_2.2 o0 3 6).bind fun a_3 => (xaI r_2.2 13 a_3 x3).bind fun v_4 => (xgR r_2.2 o0 3 6).bind fun a_5 => (xaI r_2.2 13 a_5 x1).bind fun v_6 => (if v_6 ≤ (r_2.1 + v_4) then j38_103 k17 (l38_57 k17 n) o0 x1 x2 x3 (r_2.1 + v_4) r_2.2 else (xgR r_2.2 o0 3 5).bind fun a_8 => (xaS r_2.2 13 (fun x => x) a_8 x1 x3).bind fun h_9 => (xgR h_9 o0 3 6).bind fun a_10 => (xaS h_9 13 (fun x => x) a_10 x1 (r_2.1 + v_4)).bind fun h_11 => j38_103 k17 (l38_57 k17 n) o0 x1 x2 x3 (r_2.1 + v_4) h_11))
theorem l38_57_ok {xs : List Int32} {d : Nat} (hd : 4 ≤ d) {k17 : Option Nat → Int32 → xH → Option xH} (hk17 : ∀ {u2 : Value} {u3 : Value} {u4 : Value} {o0 : Option Nat} {x1 : Int32} {h : xH} {r : xH}, u2.category = 1 → u3.category = 1 → u4.category = 1 → k17 o0 x1 h = some r → xEv (xTa xs) d 38 (17, [xrv o0, .int x1, u2, u3, u4], [], h) (none, r)) : ∀ (n : Nat) {u4 : Value} {o0 : Option Nat} {x1 : Int32} {x2 : Int32} {x3 : Int32} {h : xH} {r : xH} (hu4 : u4.category = 1), l38_57 k17 n o0 x1 x2 x3 h = some r → xEv (xTa xs) d 38 (57, [xrv o0, .int x1, .int x2, .int x3, u4], [], h) (none, r) := by
  intro n
  induction n with
  | zero => intros; rename_i hf; cases hf
  | succ n ih =>
    intro u4 o0 x1 x2 x3 h r hu4 hf
    replace hf : ((if x3 ≤ x1 then k17 o0 (x1 + (-1)) h else (xcv h o0 3).bind fun _ => (fn36 o0 x1 x3 h).bind fun r_2 => (xgR r_2.2 o0 3 6).bind fun a_3 => (xaI r_2.2 13 a_3 x3).bind fun v_4 => (xgR r_2.2 o0 3 6).bind fun a_5 => (xaI r_2.2 13 a_5 x1).bind fun v_6 => (if v_6 ≤ (r_2.1 + v_4) then j38_103 k17 (l38_57 k17 n) o0 x1 x2 x3 (r_2.1 + v_4) r_2.2 else (xgR r_2.2 o0 3 5).bind fun a_8 => (xaS r_2.2 13 (fun x => x) a_8 x1 x3).bind fun h_9 => (xgR h_9 o0 3 6).bind fun a_10 => (xaS h_9 13 (fun x => x) a_10 x1 (r_2.1 + v_4)).bind fun h_11 => j38_103 k17 (l38_57 k17 n) o0 x1 x2 x3 (r_2.1 + v_4) h_11))) = some r := hf
    refine ev_do i38_57 rfl ?_
    refine ev_do i38_58 rfl ?_
    refine ev_icmp (t := 109) i38_59 rfl (fun c_1 => ?_) (fun c_1 => ?_)
    · replace hf := x_pos (show x3 ≤ x1 from c_1) hf
      refine sh_inc (i' := 1) i38_109 rfl (xokst_of (Nat.le_of_ble_eq_true rfl) (xrv_cat (o0))) rfl ?_
      refine sh_goto (t := 17) i38_112 rfl ?_
      exact hk17 rfl rfl hu4 hf
    · replace hf := x_neg (show ¬ x3 ≤ x1 from c_1) hf
      refine sh_aload (i' := 0) (n := 1) i38_62 (Or.inr ⟨rfl, by decide⟩) rfl ?_
      refine ev_do i38_63 rfl ?_
      refine ev_do i38_64 rfl ?_
      obtain ⟨_, eu_12, hf⟩ := x_bind hf
      obtain ⟨r_2, er_2, hf⟩ := x_bind hf
      refine sh_inv (as := [.int x3, .int x1]) (z := (some (.int r_2.1), r_2.2)) i38_65 v38_253 (Or.inl ⟨by decide, rfl⟩) m36 rfl (Nat.le_of_ble_eq_true rfl) eu_12 (fn36_call (by omega) er_2) ?_
      refine sh_aload (i' := 0) (n := 1) i38_68 (Or.inr ⟨rfl, by decide⟩) rfl ?_
      obtain ⟨a_3, ea_3, hf⟩ := x_bind hf
      refine sh_getR i38_69 f38_33 ea_3 ?_
      refine ev_do i38_72 rfl ?_
      obtain ⟨v_4, ev_4, hf⟩ := x_bind hf
      refine sh_aldI (tg := 13) i38_73 (Or.inl ⟨rfl, rfl⟩) ev_4 ?_
      refine ev_do i38_74 rfl ?_
      refine sh_istore (i' := 4) (n := 2) i38_75 (Or.inl rfl) (xokst_of (Nat.le_of_ble_eq_true rfl) rfl) ?_
      refine ev_do i38_77 rfl ?_
      refine sh_aload (i' := 0) (n := 1) i38_79 (Or.inr ⟨rfl, by decide⟩) rfl ?_
      obtain ⟨a_5, ea_5, hf⟩ := x_bind hf
      refine sh_getR i38_80 f38_33 ea_5 ?_
      refine ev_do i38_83 rfl ?_
      obtain ⟨v_6, ev_6, hf⟩ := x_bind hf
      refine sh_aldI (tg := 13) i38_84 (Or.inl ⟨rfl, rfl⟩) ev_6 ?_
      refine ev_icmp (t := 103) i38_85 rfl (fun c_7 => ?_) (fun c_7 => ?_)
      · replace hf := x_pos (show v_6 ≤ (r_2.1 + v_4) from c_7) hf
        exact j38_103_ok hd hk17 ih hf
      · replace hf := x_neg (show ¬ v_6 ≤ (r_2.1 + v_4) from c_7) hf
        refine sh_aload (i' := 0) (n := 1) i38_88 (Or.inr ⟨rfl, by decide⟩) rfl ?_
        obtain ⟨a_8, ea_8, hf⟩ := x_bind hf
        refine sh_getR i38_89 f38_30 ea_8 ?_
        refine ev_do i38_92 rfl ?_
        refine ev_do i38_93 rfl ?_
        obtain ⟨h_9, eh_9, hf⟩ := x_bind hf
        refine sh_ast (tg := 13) i38_94 (Or.inl ⟨rfl, rfl, rfl⟩) eh_9 ?_
        refine sh_aload (i' := 0) (n := 1) i38_95 (Or.inr ⟨rfl, by decide⟩) rfl ?_
        obtain ⟨a_10, ea_10, hf⟩ := x_bind hf
        refine sh_getR i38_96 f38_33 ea_10 ?_
        refine ev_do i38_99 rfl ?_
        refine ev_do i38_100 rfl ?_
        obtain ⟨h_11, eh_11, hf⟩ := x_bind hf
        refine sh_ast (tg := 13) i38_102 (Or.inl ⟨rfl, rfl, rfl⟩) eh_11 ?_
        exact j38_103_ok hd hk17 ih hf
def l38_17  : Nat → Option Nat → Int32 → xH → Option xH
  | 0 => fun _ _ _ => none
  | n + 1 => fun o0 x1 h => (if x1 < 0 then some h else (xcv h o0 3).bind fun _ => (fn35 o0 x1 h).bind fun r_2 => (xgR r_2.2 o0 3 5).bind fun a_3 => (xaS r_2.2 13 (fun x => x) a_3 x1 r_2.1).bind fun h_4 => (xgR h_4 o0 3 6).bind fun a_5 => (xcv h_4 o0 3).bind fun _ => (fn36 o0 x1 r_2.1 h_4).bind fun r_6 => (xgR r_6.2 o0 3 6).bind fun a_7 => (xaI r_6.2 13 a_7 r_2.1).bind fun v_8 => (xaS r_6.2 13 (fun x => x) a_5 x1 (r_6.1 + v_8)).bind fun h_9 => l38_57 (l38_17 n) xFuel o0 x1 r_2.1 (r_2.1 - 1) h_9)
theorem l38_17_ok {xs : List Int32} {d : Nat} (hd : 4 ≤ d) : ∀ (n : Nat) {u2 : Value} {u3 : Value} {u4 : Value} {o0 : Option Nat} {x1 : Int32} {h : xH} {r : xH} (hu2 : u2.category = 1) (hu3 : u3.category = 1) (hu4 : u4.category = 1), l38_17 n o0 x1 h = some r → xEv (xTa xs) d 38 (17, [xrv o0, .int x1, u2, u3, u4], [], h) (none, r) := by
  intro n
  induction n with
  | zero => intros; rename_i hf; cases hf
  | succ n ih =>
    intro u2 u3 u4 o0 x1 h r hu2 hu3 hu4 hf
    replace hf : ((if x1 < 0 then some h else (xcv h o0 3).bind fun _ => (fn35 o0 x1 h).bind fun r_2 => (xgR r_2.2 o0 3 5).bind fun a_3 => (xaS r_2.2 13 (fun x => x) a_3 x1 r_2.1).bind fun h_4 => (xgR h_4 o0 3 6).bind fun a_5 => (xcv h_4 o0 3).bind fun _ => (fn36 o0 x1 r_2.1 h_4).bind fun r_6 => (xgR r_6.2 o0 3 6).bind fun a_7 => (xaI r_6.2 13 a_7 r_2.1).bind fun v_8 => (xaS r_6.2 13 (fun x => x) a_5 x1 (r_6.1 + v_8)).bind fun h_9 => l38_57 (l38_17 n) xFuel o0 x1 r_2.1 (r_2.1 - 1) h_9)) = some r := hf
    refine ev_do i38_17 rfl ?_
    refine ev_if (t := 115) i38_18 rfl (fun c_1 => ?_) (fun c_1 => ?_)
    · replace hf := x_pos (show x1 < 0 from c_1) hf
      obtain rfl := Option.some.inj hf
      exact sh_vret i38_115 m38 rfl
    · replace hf := x_neg (show ¬ x1 < 0 from c_1) hf
      refine sh_aload (i' := 0) (n := 1) i38_21 (Or.inr ⟨rfl, by decide⟩) rfl ?_
      refine ev_do i38_22 rfl ?_
      obtain ⟨_, eu_11, hf⟩ := x_bind hf
      obtain ⟨r_2, er_2, hf⟩ := x_bind hf
      refine sh_inv (as := [.int x1]) (z := (some (.int r_2.1), r_2.2)) i38_23 v38_250 (Or.inl ⟨by decide, rfl⟩) m35 rfl (Nat.le_of_ble_eq_true rfl) eu_11 (fn35_call (by omega) er_2) ?_
      refine sh_istore (i' := 2) (n := 1) i38_26 (Or.inr ⟨rfl, by decide⟩) (xokst_of (Nat.le_of_ble_eq_true rfl) rfl) ?_
      refine sh_aload (i' := 0) (n := 1) i38_27 (Or.inr ⟨rfl, by decide⟩) rfl ?_
      obtain ⟨a_3, ea_3, hf⟩ := x_bind hf
      refine sh_getR i38_28 f38_30 ea_3 ?_
      refine ev_do i38_31 rfl ?_
      refine ev_do i38_32 rfl ?_
      obtain ⟨h_4, eh_4, hf⟩ := x_bind hf
      refine sh_ast (tg := 13) i38_33 (Or.inl ⟨rfl, rfl, rfl⟩) eh_4 ?_
      refine sh_aload (i' := 0) (n := 1) i38_34 (Or.inr ⟨rfl, by decide⟩) rfl ?_
      obtain ⟨a_5, ea_5, hf⟩ := x_bind hf
      refine sh_getR i38_35 f38_33 ea_5 ?_
      refine ev_do i38_38 rfl ?_
      refine sh_aload (i' := 0) (n := 1) i38_39 (Or.inr ⟨rfl, by decide⟩) rfl ?_
      refine ev_do i38_40 rfl ?_
      refine ev_do i38_41 rfl ?_
      obtain ⟨_, eu_10, hf⟩ := x_bind hf
      obtain ⟨r_6, er_6, hf⟩ := x_bind hf
      refine sh_inv (as := [.int r_2.1, .int x1]) (z := (some (.int r_6.1), r_6.2)) i38_42 v38_253 (Or.inl ⟨by decide, rfl⟩) m36 rfl (by simp [xcat, xrv_cat, xc_i, xc_j, xc_a, xc_f]) eu_10 (fn36_call (by omega) er_6) ?_
      refine sh_aload (i' := 0) (n := 1) i38_45 (Or.inr ⟨rfl, by decide⟩) rfl ?_
      obtain ⟨a_7, ea_7, hf⟩ := x_bind hf
      refine sh_getR i38_46 f38_33 ea_7 ?_
      refine ev_do i38_49 rfl ?_
      obtain ⟨v_8, ev_8, hf⟩ := x_bind hf
      refine sh_aldI (tg := 13) i38_50 (Or.inl ⟨rfl, rfl⟩) ev_8 ?_
      refine ev_do i38_51 rfl ?_
      obtain ⟨h_9, eh_9, hf⟩ := x_bind hf
      refine sh_ast (tg := 13) i38_52 (Or.inl ⟨rfl, rfl, rfl⟩) eh_9 ?_
      refine ev_do i38_53 rfl ?_
      refine ev_do i38_54 rfl ?_
      refine ev_do i38_55 rfl ?_
      refine sh_istore (i' := 3) (n := 1) i38_56 (Or.inr ⟨rfl, by decide⟩) (xokst_of (Nat.le_of_ble_eq_true rfl) rfl) ?_
      exact l38_57_ok hd ih xFuel hu4 hf
def fn38 (o0 : Option Nat) (h : xH) : Option xH := (xgR h o0 3 6).bind fun a_1 => (xgI h o0 3 4).bind fun v_2 => (xaS h 13 (fun x => x) a_1 v_2 0).bind fun h_3 => (xgI h_3 o0 3 4).bind fun v_4 => l38_17 xFuel o0 (v_4 - 1) h_3
theorem fn38_call {xs : List Int32} {d : Nat} (hd : 5 ≤ d) {o0 : Option Nat} {h : xH} {r : xH} (hf : fn38 o0 h = some r) : xCall (xTa xs) d 38 [xrv o0] h (none, r) := by
  obtain ⟨d, rfl⟩ : ∃ d2, d = d2 + 1 := ⟨d - 1, by omega⟩
  replace hd : 4 ≤ d := by omega
  refine call_of2 (fl := [xrv o0]) (Ls := [xrv o0, .float 0, .float 0, .float 0, .float 0]) m38 (by simp [xfl, xrv_cat, xc_i, xc_j, xc_a, xc_f]) (Nat.le_of_ble_eq_true rfl) rfl ?_
  unfold fn38 at hf
  refine sh_aload (i' := 0) (n := 1) i38_0 (Or.inr ⟨rfl, by decide⟩) rfl ?_
  obtain ⟨a_1, ea_1, hf⟩ := x_bind hf
  refine sh_getR i38_1 f38_33 ea_1 ?_
  refine sh_aload (i' := 0) (n := 1) i38_4 (Or.inr ⟨rfl, by decide⟩) rfl ?_
  obtain ⟨v_2, ev_2, hf⟩ := x_bind hf
  refine sh_getI i38_5 f38_166 ev_2 ?_
  refine ev_do i38_8 rfl ?_
  obtain ⟨h_3, eh_3, hf⟩ := x_bind hf
  refine sh_ast (tg := 13) i38_9 (Or.inl ⟨rfl, rfl, rfl⟩) eh_3 ?_
  refine sh_aload (i' := 0) (n := 1) i38_10 (Or.inr ⟨rfl, by decide⟩) rfl ?_
  obtain ⟨v_4, ev_4, hf⟩ := x_bind hf
  refine sh_getI i38_11 f38_166 ev_4 ?_
  refine ev_do i38_14 rfl ?_
  refine ev_do i38_15 rfl ?_
  refine sh_istore (i' := 1) (n := 1) i38_16 (Or.inr ⟨rfl, by decide⟩) (xokst_of (Nat.le_of_ble_eq_true rfl) (xrv_cat (o0))) ?_
  exact l38_17_ok hd xFuel rfl rfl rfl hf
end
section
def l53_2  : Nat → Option Nat → Int32 → Int32 → xH → Option xH
  | 0 => fun _ _ _ _ => none
  | n + 1 => fun o0 x1 x2 h => (if x1 ≤ x2 then some h else (xcv h o0 5).bind fun _ => (fn52 o0 32 h).bind fun h_2 => l53_2 n o0 x1 (x2 + 1) h_2)
theorem l53_2_ok {xs : List Int32} {d : Nat} (hd : 3 ≤ d) : ∀ (n : Nat) {o0 : Option Nat} {x1 : Int32} {x2 : Int32} {h : xH} {r : xH}, l53_2 n o0 x1 x2 h = some r → xEv (xTa xs) d 53 (2, [xrv o0, .int x1, .int x2], [], h) (none, r) := by
  intro n
  induction n with
  | zero => intros; rename_i hf; cases hf
  | succ n ih =>
    intro o0 x1 x2 h r hf
    replace hf : ((if x1 ≤ x2 then some h else (xcv h o0 5).bind fun _ => (fn52 o0 32 h).bind fun h_2 => l53_2 n o0 x1 (x2 + 1) h_2)) = some r := hf
    refine ev_do i53_2 rfl ?_
    refine ev_do i53_3 rfl ?_
    refine ev_icmp (t := 19) i53_4 rfl (fun c_1 => ?_) (fun c_1 => ?_)
    · replace hf := x_pos (show x1 ≤ x2 from c_1) hf
      obtain rfl := Option.some.inj hf
      exact sh_vret i53_19 m53 rfl
    · replace hf := x_neg (show ¬ x1 ≤ x2 from c_1) hf
      refine sh_aload (i' := 0) (n := 1) i53_7 (Or.inr ⟨rfl, by decide⟩) rfl ?_
      refine ev_do i53_8 rfl ?_
      obtain ⟨_, eu_3, hf⟩ := x_bind hf
      obtain ⟨h_2, eh_2, hf⟩ := x_bind hf
      refine sh_inv (as := [.int 32]) (z := (none, h_2)) i53_10 v53_57 (Or.inl ⟨by decide, rfl⟩) m52 rfl (Nat.le_of_ble_eq_true rfl) eu_3 (fn52_call (by omega) eh_2) ?_
      refine sh_inc (i' := 2) i53_13 rfl (xokst_of (Nat.le_of_ble_eq_true rfl) rfl) rfl ?_
      refine sh_goto (t := 2) i53_16 rfl ?_
      exact ih hf
def fn53 (o0 : Option Nat) (x1 : Int32) (h : xH) : Option xH := l53_2 xFuel o0 x1 0 h
theorem fn53_call {xs : List Int32} {d : Nat} (hd : 4 ≤ d) {o0 : Option Nat} {x1 : Int32} {h : xH} {r : xH} (hf : fn53 o0 x1 h = some r) : xCall (xTa xs) d 53 [xrv o0, .int x1] h (none, r) := by
  obtain ⟨d, rfl⟩ : ∃ d2, d = d2 + 1 := ⟨d - 1, by omega⟩
  replace hd : 3 ≤ d := by omega
  refine call_of2 (fl := [xrv o0, .int x1]) (Ls := [xrv o0, .int x1, .float 0]) m53 (by simp [xfl, xrv_cat, xc_i, xc_j, xc_a, xc_f]) (Nat.le_of_ble_eq_true rfl) rfl ?_
  unfold fn53 at hf
  refine ev_do i53_0 rfl ?_
  refine sh_istore (i' := 2) (n := 1) i53_1 (Or.inr ⟨rfl, by decide⟩) (xokst_of (Nat.le_of_ble_eq_true rfl) rfl) ?_
  exact l53_2_ok hd xFuel hf
end
section
def j39_147  (o0 : Option Nat) (o1 : Option Nat) (x2 : Int32) (x3 : Int32) (h : xH) : Option xH := some h
theorem j39_147_ok {xs : List Int32} {d : Nat} (hd : 4 ≤ d) {u4 : Value} {u5 : Value} {o0 : Option Nat} {o1 : Option Nat} {x2 : Int32} {x3 : Int32} {h : xH} {r : xH} (hu4 : u4.category = 1) (hu5 : u5.category = 1) (hf : j39_147 o0 o1 x2 x3 h = some r) : xEv (xTa xs) d 39 (147, [xrv o0, xrv o1, .int x2, .int x3, u4, u5], [], h) (none, r) := by
  unfold j39_147 at hf
  obtain rfl := Option.some.inj hf
  exact sh_vret i39_147 m39 rfl
def l39_77 (k15 : Option Nat → Option Nat → Int32 → Int32 → xH → Option xH) : Nat → Option Nat → Option Nat → Int32 → Int32 → Int32 → Int32 → xH → Option xH
  | 0 => fun _ _ _ _ _ _ _ => none
  | n + 1 => fun o0 o1 x2 x3 x4 x5 h => (if x4 ≤ x5 then (xcv h o1 5).bind fun _ => (fn56 o1 h).bind fun h_2 => (xgI h_2 o1 5 5).bind fun v_3 => (xcv h_2 o0 3).bind fun _ => (fn36 o0 x2 x4 h_2).bind fun r_4 => (xpF r_4.2 o1 5 5 .int (.int (v_3 + r_4.1))).bind fun h_5 => k15 o0 o1 x4 (x3 + 1) h_5 else (xcv h o1 5).bind fun _ => (fn52 o1 32 h).bind fun h_8 => (xgR h_8 o0 3 2).bind fun a_9 => (xcv h_8 o0 3).bind fun _ => (fn34 o0 x5 h_8).bind fun r_10 => (xcv r_10.2 o0 3).bind fun _ => (fn34 o0 (x5 + 1) r_10.2).bind fun r_11 => (xcv r_11.2 o1 5).bind fun _ => (fn54 o1 a_9 r_10.1 r_11.1 r_11.2).bind fun h_12 => l39_77 k15 n o0 o1 x2 x3 x4 (x5 + 1) h_12)
theorem l39_77_ok {xs : List Int32} {d : Nat} (hd : 4 ≤ d) {k15 : Option Nat → Option Nat → Int32 → Int32 → xH → Option xH} (hk15 : ∀ {u4 : Value} {u5 : Value} {o0 : Option Nat} {o1 : Option Nat} {x2 : Int32} {x3 : Int32} {h : xH} {r : xH}, u4.category = 1 → u5.category = 1 → k15 o0 o1 x2 x3 h = some r → xEv (xTa xs) d 39 (15, [xrv o0, xrv o1, .int x2, .int x3, u4, u5], [], h) (none, r)) : ∀ (n : Nat) {o0 : Option Nat} {o1 : Option Nat} {x2 : Int32} {x3 : Int32} {x4 : Int32} {x5 : Int32} {h : xH} {r : xH}, l39_77 k15 n o0 o1 x2 x3 x4 x5 h = some r → xEv (xTa xs) d 39 (77, [xrv o0, xrv o1, .int x2, .int x3, .int x4, .int x5], [], h) (none, r) := by
  intro n
  induction n with
  | zero => intros; rename_i hf; cases hf
  | succ n ih =>
    intro o0 o1 x2 x3 x4 x5 h r hf
    replace hf : ((if x4 ≤ x5 then (xcv h o1 5).bind fun _ => (fn56 o1 h).bind fun h_2 => (xgI h_2 o1 5 5).bind fun v_3 => (xcv h_2 o0 3).bind fun _ => (fn36 o0 x2 x4 h_2).bind fun r_4 => (xpF r_4.2 o1 5 5 .int (.int (v_3 + r_4.1))).bind fun h_5 => k15 o0 o1 x4 (x3 + 1) h_5 else (xcv h o1 5).bind fun _ => (fn52 o1 32 h).bind fun h_8 => (xgR h_8 o0 3 2).bind fun a_9 => (xcv h_8 o0 3).bind fun _ => (fn34 o0 x5 h_8).bind fun r_10 => (xcv r_10.2 o0 3).bind fun _ => (fn34 o0 (x5 + 1) r_10.2).bind fun r_11 => (xcv r_11.2 o1 5).bind fun _ => (fn54 o1 a_9 r_10.1 r_11.1 r_11.2).bind fun h_12 => l39_77 k15 n o0 o1 x2 x3 x4 (x5 + 1) h_12)) = some r := hf
    refine ev_do i39_77 rfl ?_
    refine ev_do i39_79 rfl ?_
    refine ev_icmp (t := 118) i39_81 rfl (fun c_1 => ?_) (fun c_1 => ?_)
    · replace hf := x_pos (show x4 ≤ x5 from c_1) hf
      refine sh_aload (i' := 1) (n := 1) i39_118 (Or.inr ⟨rfl, by decide⟩) rfl ?_
      obtain ⟨_, eu_7, hf⟩ := x_bind hf
      obtain ⟨h_2, eh_2, hf⟩ := x_bind hf
      refine sh_inv (as := []) (z := (none, h_2)) i39_119 v39_95 (Or.inl ⟨by decide, rfl⟩) m56 rfl (Nat.le_of_ble_eq_true rfl) eu_7 (fn56_call (by omega) eh_2) ?_
      refine sh_aload (i' := 1) (n := 1) i39_122 (Or.inr ⟨rfl, by decide⟩) rfl ?_
      refine sh_dup i39_123 (xrv_cat (o1)) ?_
      obtain ⟨v_3, ev_3, hf⟩ := x_bind hf
      refine sh_getI i39_124 f39_256 ev_3 ?_
      refine sh_aload (i' := 0) (n := 1) i39_127 (Or.inr ⟨rfl, by decide⟩) rfl ?_
      refine ev_do i39_128 rfl ?_
      refine ev_do i39_129 rfl ?_
      obtain ⟨_, eu_6, hf⟩ := x_bind hf
      obtain ⟨r_4, er_4, hf⟩ := x_bind hf
      refine sh_inv (as := [.int x4, .int x2]) (z := (some (.int r_4.1), r_4.2)) i39_131 v39_253 (Or.inl ⟨by decide, rfl⟩) m36 rfl (by simp [xcat, xrv_cat, xc_i, xc_j, xc_a, xc_f]) eu_6 (fn36_call (by omega) er_4) ?_
      refine ev_do i39_134 rfl ?_
      obtain ⟨h_5, eh_5, hf⟩ := x_bind hf
      refine sh_put i39_135 f39_256 (by decide) rfl eh_5 ?_
      refine ev_do i39_138 rfl ?_
      refine sh_istore (i' := 2) (n := 1) i39_140 (Or.inr ⟨rfl, by decide⟩) (xokst_of (Nat.le_of_ble_eq_true rfl) (xrv_cat (o1))) ?_
      refine sh_inc (i' := 3) i39_141 rfl (xokst_of (Nat.le_of_ble_eq_true rfl) rfl) rfl ?_
      refine sh_goto (t := 15) i39_144 rfl ?_
      exact hk15 rfl rfl hf
    · replace hf := x_neg (show ¬ x4 ≤ x5 from c_1) hf
      refine sh_aload (i' := 1) (n := 1) i39_84 (Or.inr ⟨rfl, by decide⟩) rfl ?_
      refine ev_do i39_85 rfl ?_
      obtain ⟨_, eu_16, hf⟩ := x_bind hf
      obtain ⟨h_8, eh_8, hf⟩ := x_bind hf
      refine sh_inv (as := [.int 32]) (z := (none, h_8)) i39_87 v39_138 (Or.inl ⟨by decide, rfl⟩) m52 rfl (Nat.le_of_ble_eq_true rfl) eu_16 (fn52_call (by omega) eh_8) ?_
      refine sh_aload (i' := 1) (n := 1) i39_90 (Or.inr ⟨rfl, by decide⟩) rfl ?_
      refine sh_aload (i' := 0) (n := 1) i39_91 (Or.inr ⟨rfl, by decide⟩) rfl ?_
      obtain ⟨a_9, ea_9, hf⟩ := x_bind hf
      refine sh_getR i39_92 f39_22 ea_9 ?_
      refine sh_aload (i' := 0) (n := 1) i39_95 (Or.inr ⟨rfl, by decide⟩) rfl ?_
      refine ev_do i39_96 rfl ?_
      obtain ⟨_, eu_15, hf⟩ := x_bind hf
      obtain ⟨r_10, er_10, hf⟩ := x_bind hf
      refine sh_inv (as := [.int x5]) (z := (some (.int r_10.1), r_10.2)) i39_98 v39_237 (Or.inl ⟨by decide, rfl⟩) m34 rfl (by simp [xcat, xrv_cat, xc_i, xc_j, xc_a, xc_f]) eu_15 (fn34_call (by omega) er_10) ?_
      refine sh_aload (i' := 0) (n := 1) i39_101 (Or.inr ⟨rfl, by decide⟩) rfl ?_
      refine ev_do i39_102 rfl ?_
      refine ev_do i39_104 rfl ?_
      refine ev_do i39_105 rfl ?_
      obtain ⟨_, eu_14, hf⟩ := x_bind hf
      obtain ⟨r_11, er_11, hf⟩ := x_bind hf
      refine sh_inv (as := [.int (x5 + 1)]) (z := (some (.int r_11.1), r_11.2)) i39_106 v39_237 (Or.inl ⟨by decide, rfl⟩) m34 rfl (by simp [xcat, xrv_cat, xc_i, xc_j, xc_a, xc_f]) eu_14 (fn34_call (by omega) er_11) ?_
      obtain ⟨_, eu_13, hf⟩ := x_bind hf
      obtain ⟨h_12, eh_12, hf⟩ := x_bind hf
      refine sh_inv (as := [.int r_11.1, .int r_10.1, xrv a_9]) (z := (none, h_12)) i39_109 v39_134 (Or.inl ⟨by decide, rfl⟩) m54 rfl (Nat.le_of_ble_eq_true rfl) eu_13 (fn54_call (by omega) eh_12) ?_
      refine sh_inc (i' := 5) i39_112 rfl (xokst_of (Nat.le_of_ble_eq_true rfl) rfl) rfl ?_
      refine sh_goto (t := 77) i39_115 rfl ?_
      exact ih hf
def j39_52 (k15 : Option Nat → Option Nat → Int32 → Int32 → xH → Option xH) (o0 : Option Nat) (o1 : Option Nat) (x2 : Int32) (x3 : Int32) (x4 : Int32) (h : xH) : Option xH := (xgR h o0 3 2).bind fun a_1 => (xcv h o0 3).bind fun _ => (fn34 o0 x2 h).bind fun r_2 => (xcv r_2.2 o0 3).bind fun _ => (fn34 o0 (x2 + 1) r_2.2).bind fun r_3 => (xcv r_3.2 o1 5).bind fun _ => (fn54 o1 a_1 r_2.1 r_3.1 r_3.2).bind fun h_4 => l39_77 k15 xFuel o0 o1 x2 x3 x4 (x2 + 1) h_4
theorem j39_52_ok {xs : List Int32} {d : Nat} (hd : 4 ≤ d) {k15 : Option Nat → Option Nat → Int32 → Int32 → xH → Option xH} (hk15 : ∀ {u4 : Value} {u5 : Value} {o0 : Option Nat} {o1 : Option Nat} {x2 : Int32} {x3 : Int32} {h : xH} {r : xH}, u4.category = 1 → u5.category = 1 → k15 o0 o1 x2 x3 h = some r → xEv (xTa xs) d 39 (15, [xrv o0, xrv o1, .int x2, .int x3, u4, u5], [], h) (none, r)) {u5 : Value} {o0 : Option Nat} {o1 : Option Nat} {x2 : Int32} {x3 : Int32} {x4 : Int32} {h : xH} {r : xH} (hu5 : u5.category = 1) (hf : j39_52 k15 o0 o1 x2 x3 x4 h = some r) : xEv (xTa xs) d 39 (52, [xrv o0, xrv o1, .int x2, .int x3, .int x4, u5], [], h) (none, r) := by
  unfold j39_52 at hf
  refine sh_aload (i' := 1) (n := 1) i39_52 (Or.inr ⟨rfl, by decide⟩) rfl ?_
  refine sh_aload (i' := 0) (n := 1) i39_53 (Or.inr ⟨rfl, by decide⟩) rfl ?_
  obtain ⟨a_1, ea_1, hf⟩ := x_bind hf
  refine sh_getR i39_54 f39_22 ea_1 ?_
  refine sh_aload (i' := 0) (n := 1) i39_57 (Or.inr ⟨rfl, by decide⟩) rfl ?_
  refine ev_do i39_58 rfl ?_
  obtain ⟨_, eu_7, hf⟩ := x_bind hf
  obtain ⟨r_2, er_2, hf⟩ := x_bind hf
  refine sh_inv (as := [.int x2]) (z := (some (.int r_2.1), r_2.2)) i39_59 v39_237 (Or.inl ⟨by decide, rfl⟩) m34 rfl (by simp [xcat, xrv_cat, xc_i, xc_j, xc_a, xc_f]) eu_7 (fn34_call (by omega) er_2) ?_
  refine sh_aload (i' := 0) (n := 1) i39_62 (Or.inr ⟨rfl, by decide⟩) rfl ?_
  refine ev_do i39_63 rfl ?_
  refine ev_do i39_64 rfl ?_
  refine ev_do i39_65 rfl ?_
  obtain ⟨_, eu_6, hf⟩ := x_bind hf
  obtain ⟨r_3, er_3, hf⟩ := x_bind hf
  refine sh_inv (as := [.int (x2 + 1)]) (z := (some (.int r_3.1), r_3.2)) i39_66 v39_237 (Or.inl ⟨by decide, rfl⟩) m34 rfl (by simp [xcat, xrv_cat, xc_i, xc_j, xc_a, xc_f]) eu_6 (fn34_call (by omega) er_3) ?_
  obtain ⟨_, eu_5, hf⟩ := x_bind hf
  obtain ⟨h_4, eh_4, hf⟩ := x_bind hf
  refine sh_inv (as := [.int r_3.1, .int r_2.1, xrv a_1]) (z := (none, h_4)) i39_69 v39_134 (Or.inl ⟨by decide, rfl⟩) m54 rfl (Nat.le_of_ble_eq_true rfl) eu_5 (fn54_call (by omega) eh_4) ?_
  refine ev_do i39_72 rfl ?_
  refine ev_do i39_73 rfl ?_
  refine ev_do i39_74 rfl ?_
  refine sh_istore (i' := 5) (n := 2) i39_75 (Or.inl rfl) (xokst_of (Nat.le_of_ble_eq_true rfl) rfl) ?_
  exact l39_77_ok hd hk15 xFuel hf
def l39_15  : Nat → Option Nat → Option Nat → Int32 → Int32 → xH → Option xH
  | 0 => fun _ _ _ _ _ => none
  | n + 1 => fun o0 o1 x2 x3 h => (xgR h o0 3 3).bind fun a_1 => (xaN h a_1).bind fun v_2 => (if v_2 ≤ x3 then j39_147 o0 o1 x2 x3 h else (xgI h o0 3 4).bind fun v_4 => (if v_4 ≤ x2 then j39_147 o0 o1 x2 x3 h else (xgR h o0 3 5).bind fun a_6 => (xaI h 13 a_6 x2).bind fun v_7 => (if x2 ≤ 0 then j39_52 (l39_15 n) o0 o1 x2 x3 v_7 h else (xgI h o0 3 9).bind fun v_9 => (xcv h o1 5).bind fun _ => (fn53 o1 v_9 h).bind fun h_10 => j39_52 (l39_15 n) o0 o1 x2 x3 v_7 h_10)))
theorem l39_15_ok {xs : List Int32} {d : Nat} (hd : 4 ≤ d) : ∀ (n : Nat) {u4 : Value} {u5 : Value} {o0 : Option Nat} {o1 : Option Nat} {x2 : Int32} {x3 : Int32} {h : xH} {r : xH} (hu4 : u4.category = 1) (hu5 : u5.category = 1), l39_15 n o0 o1 x2 x3 h = some r → xEv (xTa xs) d 39 (15, [xrv o0, xrv o1, .int x2, .int x3, u4, u5], [], h) (none, r) := by
  intro n
  induction n with
  | zero => intros; rename_i hf; cases hf
  | succ n ih =>
    intro u4 u5 o0 o1 x2 x3 h r hu4 hu5 hf
    replace hf : ((xgR h o0 3 3).bind fun a_1 => (xaN h a_1).bind fun v_2 => (if v_2 ≤ x3 then j39_147 o0 o1 x2 x3 h else (xgI h o0 3 4).bind fun v_4 => (if v_4 ≤ x2 then j39_147 o0 o1 x2 x3 h else (xgR h o0 3 5).bind fun a_6 => (xaI h 13 a_6 x2).bind fun v_7 => (if x2 ≤ 0 then j39_52 (l39_15 n) o0 o1 x2 x3 v_7 h else (xgI h o0 3 9).bind fun v_9 => (xcv h o1 5).bind fun _ => (fn53 o1 v_9 h).bind fun h_10 => j39_52 (l39_15 n) o0 o1 x2 x3 v_7 h_10)))) = some r := hf
    refine ev_do i39_15 rfl ?_
    refine sh_aload (i' := 0) (n := 1) i39_16 (Or.inr ⟨rfl, by decide⟩) rfl ?_
    obtain ⟨a_1, ea_1, hf⟩ := x_bind hf
    refine sh_getR i39_17 f39_26 ea_1 ?_
    obtain ⟨v_2, ev_2, hf⟩ := x_bind hf
    refine sh_len i39_20 ev_2 ?_
    refine ev_icmp (t := 147) i39_21 rfl (fun c_3 => ?_) (fun c_3 => ?_)
    · replace hf := x_pos (show v_2 ≤ x3 from c_3) hf
      exact j39_147_ok hd hu4 hu5 hf
    · replace hf := x_neg (show ¬ v_2 ≤ x3 from c_3) hf
      refine ev_do i39_24 rfl ?_
      refine sh_aload (i' := 0) (n := 1) i39_25 (Or.inr ⟨rfl, by decide⟩) rfl ?_
      obtain ⟨v_4, ev_4, hf⟩ := x_bind hf
      refine sh_getI i39_26 f39_166 ev_4 ?_
      refine ev_icmp (t := 147) i39_29 rfl (fun c_5 => ?_) (fun c_5 => ?_)
      · replace hf := x_pos (show v_4 ≤ x2 from c_5) hf
        exact j39_147_ok hd hu4 hu5 hf
      · replace hf := x_neg (show ¬ v_4 ≤ x2 from c_5) hf
        refine sh_aload (i' := 0) (n := 1) i39_32 (Or.inr ⟨rfl, by decide⟩) rfl ?_
        obtain ⟨a_6, ea_6, hf⟩ := x_bind hf
        refine sh_getR i39_33 f39_30 ea_6 ?_
        refine ev_do i39_36 rfl ?_
        obtain ⟨v_7, ev_7, hf⟩ := x_bind hf
        refine sh_aldI (tg := 13) i39_37 (Or.inl ⟨rfl, rfl⟩) ev_7 ?_
        refine sh_istore (i' := 4) (n := 2) i39_38 (Or.inl rfl) (xokst_of (Nat.le_of_ble_eq_true rfl) rfl) ?_
        refine ev_do i39_40 rfl ?_
        refine ev_if (t := 52) i39_41 rfl (fun c_8 => ?_) (fun c_8 => ?_)
        · replace hf := x_pos (show x2 ≤ 0 from c_8) hf
          exact j39_52_ok hd ih hu5 hf
        · replace hf := x_neg (show ¬ x2 ≤ 0 from c_8) hf
          refine sh_aload (i' := 1) (n := 1) i39_44 (Or.inr ⟨rfl, by decide⟩) rfl ?_
          refine sh_aload (i' := 0) (n := 1) i39_45 (Or.inr ⟨rfl, by decide⟩) rfl ?_
          obtain ⟨v_9, ev_9, hf⟩ := x_bind hf
          refine sh_getI i39_46 f39_154 ev_9 ?_
          obtain ⟨_, eu_11, hf⟩ := x_bind hf
          obtain ⟨h_10, eh_10, hf⟩ := x_bind hf
          refine sh_inv (as := [.int v_9]) (z := (none, h_10)) i39_49 v39_163 (Or.inl ⟨by decide, rfl⟩) m53 rfl (Nat.le_of_ble_eq_true rfl) eu_11 (fn53_call (by omega) eh_10) ?_
          exact j39_52_ok hd ih hu5 hf
def j39_11  (o0 : Option Nat) (o1 : Option Nat) (h : xH) : Option xH := l39_15 xFuel o0 o1 0 0 h
theorem j39_11_ok {xs : List Int32} {d : Nat} (hd : 4 ≤ d) {u2 : Value} {u3 : Value} {u4 : Value} {u5 : Value} {o0 : Option Nat} {o1 : Option Nat} {h : xH} {r : xH} (hu2 : u2.category = 1) (hu3 : u3.category = 1) (hu4 : u4.category = 1) (hu5 : u5.category = 1) (hf : j39_11 o0 o1 h = some r) : xEv (xTa xs) d 39 (11, [xrv o0, xrv o1, u2, u3, u4, u5], [], h) (none, r) := by
  unfold j39_11 at hf
  refine ev_do i39_11 rfl ?_
  refine sh_istore (i' := 2) (n := 1) i39_12 (Or.inr ⟨rfl, by decide⟩) (xokst_of (Nat.le_of_ble_eq_true rfl) (xrv_cat (o1))) ?_
  refine ev_do i39_13 rfl ?_
  refine sh_istore (i' := 3) (n := 1) i39_14 (Or.inr ⟨rfl, by decide⟩) (xokst_of (Nat.le_of_ble_eq_true rfl) rfl) ?_
  exact l39_15_ok hd xFuel hu4 hu5 hf
def fn39 (o0 : Option Nat) (o1 : Option Nat) (h : xH) : Option xH := (xgI h o0 3 4).bind fun v_1 => (if v_1 = 0 then (xcv h o1 5).bind fun _ => (fn56 o1 h).bind fun h_3 => j39_11 o0 o1 h_3 else j39_11 o0 o1 h)
theorem fn39_call {xs : List Int32} {d : Nat} (hd : 5 ≤ d) {o0 : Option Nat} {o1 : Option Nat} {h : xH} {r : xH} (hf : fn39 o0 o1 h = some r) : xCall (xTa xs) d 39 [xrv o0, xrv o1] h (none, r) := by
  obtain ⟨d, rfl⟩ : ∃ d2, d = d2 + 1 := ⟨d - 1, by omega⟩
  replace hd : 4 ≤ d := by omega
  refine call_of2 (fl := [xrv o0, xrv o1]) (Ls := [xrv o0, xrv o1, .float 0, .float 0, .float 0, .float 0]) m39 (by simp [xfl, xrv_cat, xc_i, xc_j, xc_a, xc_f]) (Nat.le_of_ble_eq_true rfl) rfl ?_
  unfold fn39 at hf
  refine sh_aload (i' := 0) (n := 1) i39_0 (Or.inr ⟨rfl, by decide⟩) rfl ?_
  obtain ⟨v_1, ev_1, hf⟩ := x_bind hf
  refine sh_getI i39_1 f39_166 ev_1 ?_
  refine ev_if (t := 11) i39_4 rfl (fun c_2 => ?_) (fun c_2 => ?_)
  · replace hf := x_neg (show ¬ v_1 = 0 from c_2) hf
    exact j39_11_ok hd rfl rfl rfl rfl hf
  · replace hf := x_pos (show v_1 = 0 from Decidable.byContradiction (fun h9 => c_2 h9)) hf
    refine sh_aload (i' := 1) (n := 1) i39_7 (Or.inr ⟨rfl, by decide⟩) rfl ?_
    obtain ⟨_, eu_4, hf⟩ := x_bind hf
    obtain ⟨h_3, eh_3, hf⟩ := x_bind hf
    refine sh_inv (as := []) (z := (none, h_3)) i39_8 v39_95 (Or.inl ⟨by decide, rfl⟩) m56 rfl (Nat.le_of_ble_eq_true rfl) eu_4 (fn56_call (by omega) eh_3) ?_
    exact j39_11_ok hd rfl rfl rfl rfl hf
end
