section
def fn0 (o0 : Option Nat) (h : xH) : Option xH := (o0).bind fun a_1 => some h
theorem fn0_call {xs : List Int32} {d : Nat} (hd : 2 ≤ d) {o0 : Option Nat} {h : xH} {r : xH} (hf : fn0 o0 h = some r) : xCall (xTa xs) d 0 [xrv o0] h (none, r) := by
  obtain ⟨d, rfl⟩ : ∃ d2, d = d2 + 1 := ⟨d - 1, by omega⟩
  replace hd : 1 ≤ d := by omega
  refine call_of2 (fl := [xrv o0]) (Ls := [xrv o0]) m0 (by simp [xfl, xrv_cat, xc_i, xc_j, xc_a, xc_f]) (Nat.le_of_ble_eq_true rfl) rfl ?_
  unfold fn0 at hf
  refine sh_aload (i' := 0) (n := 1) i0_0 (Or.inr ⟨rfl, by decide⟩) rfl ?_
  obtain ⟨a_1, ea_1, hf⟩ := x_bind hf
  refine sh_obj i0_1 v0_3 (Nat.le_of_ble_eq_true rfl) ea_1 ?_
  obtain rfl := Option.some.inj hf
  exact sh_vret i0_4 m0 rfl
end
section
def j1_21  (o0 : Option Nat) (s0 : Int32) (h : xH) : Option (Int32 × xH) := (if s0 &&& 1 = s0 then some (s0, h) else none)
theorem j1_21_ok {xs : List Int32} {d : Nat} (hd : 1 ≤ d) {o0 : Option Nat} {s0 : Int32} {h : xH} {r : (Int32 × xH)} (hf : j1_21 o0 s0 h = some r) : xEv (xTa xs) d 1 (21, [xrv o0], [.int s0], h) (some (.int r.1), r.2) := by
  unfold j1_21 at hf
  by_cases c_1 : s0 &&& 1 = s0
  · replace hf := x_pos c_1 hf
    obtain rfl := Option.some.inj hf
    exact sh_iret i1_21 m1 rfl (congrArg Value.int c_1)
  · replace hf := x_neg c_1 hf
    cases hf
def j1_16  (o0 : Option Nat) (h : xH) : Option (Int32 × xH) := j1_21 o0 1 h
theorem j1_16_ok {xs : List Int32} {d : Nat} (hd : 1 ≤ d) {o0 : Option Nat} {h : xH} {r : (Int32 × xH)} (hf : j1_16 o0 h = some r) : xEv (xTa xs) d 1 (16, [xrv o0], [], h) (some (.int r.1), r.2) := by
  unfold j1_16 at hf
  refine ev_do i1_16 rfl ?_
  refine sh_goto (t := 21) i1_17 rfl ?_
  exact j1_21_ok hd hf
def fn1 (o0 : Option Nat) (h : xH) : Option (Int32 × xH) := (xgI h o0 0 1).bind fun v_1 => (if v_1 = 4 then j1_16 o0 h else (xgI h o0 0 1).bind fun v_3 => (if v_3 = 5 then j1_16 o0 h else j1_21 o0 0 h))
theorem fn1_call {xs : List Int32} {d : Nat} (hd : 2 ≤ d) {o0 : Option Nat} {h : xH} {r : (Int32 × xH)} (hf : fn1 o0 h = some r) : xCall (xTa xs) d 1 [xrv o0] h (some (.int r.1), r.2) := by
  obtain ⟨d, rfl⟩ : ∃ d2, d = d2 + 1 := ⟨d - 1, by omega⟩
  replace hd : 1 ≤ d := by omega
  refine call_of2 (fl := [xrv o0]) (Ls := [xrv o0]) m1 (by simp [xfl, xrv_cat, xc_i, xc_j, xc_a, xc_f]) (Nat.le_of_ble_eq_true rfl) rfl ?_
  unfold fn1 at hf
  refine sh_aload (i' := 0) (n := 1) i1_0 (Or.inr ⟨rfl, by decide⟩) rfl ?_
  obtain ⟨v_1, ev_1, hf⟩ := x_bind hf
  refine sh_getI i1_1 f1_9 ev_1 ?_
  refine ev_do i1_4 rfl ?_
  refine ev_icmp (t := 16) i1_5 rfl (fun c_2 => ?_) (fun c_2 => ?_)
  · replace hf := x_pos (show v_1 = 4 from c_2) hf
    exact j1_16_ok hd hf
  · replace hf := x_neg (show ¬ v_1 = 4 from c_2) hf
    refine sh_aload (i' := 0) (n := 1) i1_8 (Or.inr ⟨rfl, by decide⟩) rfl ?_
    obtain ⟨v_3, ev_3, hf⟩ := x_bind hf
    refine sh_getI i1_9 f1_9 ev_3 ?_
    refine ev_do i1_12 rfl ?_
    refine ev_icmp (t := 20) i1_13 rfl (fun c_4 => ?_) (fun c_4 => ?_)
    · replace hf := x_neg (show ¬ v_3 = 5 from c_4) hf
      refine ev_do i1_20 rfl ?_
      exact j1_21_ok hd hf
    · replace hf := x_pos (show v_3 = 5 from Decidable.byContradiction (fun h9 => c_4 h9)) hf
      exact j1_16_ok hd hf
end
section
def j2_22  (o0 : Option Nat) (s0 : Int32) (h : xH) : Option (Int32 × xH) := (if s0 &&& 1 = s0 then some (s0, h) else none)
theorem j2_22_ok {xs : List Int32} {d : Nat} (hd : 1 ≤ d) {o0 : Option Nat} {s0 : Int32} {h : xH} {r : (Int32 × xH)} (hf : j2_22 o0 s0 h = some r) : xEv (xTa xs) d 2 (22, [xrv o0], [.int s0], h) (some (.int r.1), r.2) := by
  unfold j2_22 at hf
  by_cases c_1 : s0 &&& 1 = s0
  · replace hf := x_pos c_1 hf
    obtain rfl := Option.some.inj hf
    exact sh_iret i2_22 m2 rfl (congrArg Value.int c_1)
  · replace hf := x_neg c_1 hf
    cases hf
def j2_17  (o0 : Option Nat) (h : xH) : Option (Int32 × xH) := j2_22 o0 1 h
theorem j2_17_ok {xs : List Int32} {d : Nat} (hd : 1 ≤ d) {o0 : Option Nat} {h : xH} {r : (Int32 × xH)} (hf : j2_17 o0 h = some r) : xEv (xTa xs) d 2 (17, [xrv o0], [], h) (some (.int r.1), r.2) := by
  unfold j2_17 at hf
  refine ev_do i2_17 rfl ?_
  refine sh_goto (t := 22) i2_18 rfl ?_
  exact j2_22_ok hd hf
def fn2 (o0 : Option Nat) (h : xH) : Option (Int32 × xH) := (xgI h o0 0 1).bind fun v_1 => (if v_1 = 5 then j2_17 o0 h else (xgI h o0 0 1).bind fun v_3 => (if v_3 = 6 then j2_17 o0 h else j2_22 o0 0 h))
theorem fn2_call {xs : List Int32} {d : Nat} (hd : 2 ≤ d) {o0 : Option Nat} {h : xH} {r : (Int32 × xH)} (hf : fn2 o0 h = some r) : xCall (xTa xs) d 2 [xrv o0] h (some (.int r.1), r.2) := by
  obtain ⟨d, rfl⟩ : ∃ d2, d = d2 + 1 := ⟨d - 1, by omega⟩
  replace hd : 1 ≤ d := by omega
  refine call_of2 (fl := [xrv o0]) (Ls := [xrv o0]) m2 (by simp [xfl, xrv_cat, xc_i, xc_j, xc_a, xc_f]) (Nat.le_of_ble_eq_true rfl) rfl ?_
  unfold fn2 at hf
  refine sh_aload (i' := 0) (n := 1) i2_0 (Or.inr ⟨rfl, by decide⟩) rfl ?_
  obtain ⟨v_1, ev_1, hf⟩ := x_bind hf
  refine sh_getI i2_1 f2_9 ev_1 ?_
  refine ev_do i2_4 rfl ?_
  refine ev_icmp (t := 17) i2_5 rfl (fun c_2 => ?_) (fun c_2 => ?_)
  · replace hf := x_pos (show v_1 = 5 from c_2) hf
    exact j2_17_ok hd hf
  · replace hf := x_neg (show ¬ v_1 = 5 from c_2) hf
    refine sh_aload (i' := 0) (n := 1) i2_8 (Or.inr ⟨rfl, by decide⟩) rfl ?_
    obtain ⟨v_3, ev_3, hf⟩ := x_bind hf
    refine sh_getI i2_9 f2_9 ev_3 ?_
    refine ev_do i2_12 rfl ?_
    refine ev_icmp (t := 21) i2_14 rfl (fun c_4 => ?_) (fun c_4 => ?_)
    · replace hf := x_neg (show ¬ v_3 = 6 from c_4) hf
      refine ev_do i2_21 rfl ?_
      exact j2_22_ok hd hf
    · replace hf := x_pos (show v_3 = 6 from Decidable.byContradiction (fun h9 => c_4 h9)) hf
      exact j2_17_ok hd hf
end
section
def fn59 (o0 : Option Nat) (h : xH) : Option xH := (o0).bind fun a_1 => some h
theorem fn59_call {xs : List Int32} {d : Nat} (hd : 2 ≤ d) {o0 : Option Nat} {h : xH} {r : xH} (hf : fn59 o0 h = some r) : xCall (xTa xs) d 59 [xrv o0] h (none, r) := by
  obtain ⟨d, rfl⟩ : ∃ d2, d = d2 + 1 := ⟨d - 1, by omega⟩
  replace hd : 1 ≤ d := by omega
  refine call_of2 (fl := [xrv o0]) (Ls := [xrv o0]) m59 (by simp [xfl, xrv_cat, xc_i, xc_j, xc_a, xc_f]) (Nat.le_of_ble_eq_true rfl) rfl ?_
  unfold fn59 at hf
  refine sh_aload (i' := 0) (n := 1) i59_0 (Or.inr ⟨rfl, by decide⟩) rfl ?_
  obtain ⟨a_1, ea_1, hf⟩ := x_bind hf
  refine sh_obj i59_1 v59_1 (Nat.le_of_ble_eq_true rfl) ea_1 ?_
  obtain rfl := Option.some.inj hf
  exact sh_vret i59_4 m59 rfl
end
section
def fn95 (o0 : Option Nat) (x1 : Int32) (h : xH) : Option xH := (o0).bind fun a_1 => (xnA h 12 (.int 0) (xmax 0 x1)).bind fun h_2 => (xpF h_2 o0 9 0 (.array .byte) (xrv (some h.1))).bind fun h_3 => some h_3
theorem fn95_call {xs : List Int32} {d : Nat} (hd : 2 ≤ d) {o0 : Option Nat} {x1 : Int32} {h : xH} {r : xH} (hf : fn95 o0 x1 h = some r) : xCall (xTa xs) d 95 [xrv o0, .int x1] h (none, r) := by
  obtain ⟨d, rfl⟩ : ∃ d2, d = d2 + 1 := ⟨d - 1, by omega⟩
  replace hd : 1 ≤ d := by omega
  refine call_of2 (fl := [xrv o0, .int x1]) (Ls := [xrv o0, .int x1]) m95 (by simp [xfl, xrv_cat, xc_i, xc_j, xc_a, xc_f]) (Nat.le_of_ble_eq_true rfl) rfl ?_
  unfold fn95 at hf
  refine sh_aload (i' := 0) (n := 1) i95_0 (Or.inr ⟨rfl, by decide⟩) rfl ?_
  obtain ⟨a_1, ea_1, hf⟩ := x_bind hf
  refine sh_obj i95_1 v95_3 (Nat.le_of_ble_eq_true rfl) ea_1 ?_
  refine sh_aload (i' := 0) (n := 1) i95_4 (Or.inr ⟨rfl, by decide⟩) rfl ?_
  refine ev_do i95_5 rfl ?_
  refine ev_do i95_6 rfl ?_
  refine sh_max i95_7 v95_9 (by simp [xcat, xrv_cat, xc_i, xc_j, xc_a, xc_f]) ?_
  obtain ⟨h_2, eh_2, hf⟩ := x_bind hf
  refine sh_newa (tg := 12) (n := 2) (v := (.int 0)) i95_10 (fun _ _ _ => rfl) eh_2 ?_
  obtain ⟨h_3, eh_3, hf⟩ := x_bind hf
  refine sh_put i95_12 f95_15 (by decide) rfl eh_3 ?_
  obtain rfl := Option.some.inj hf
  exact sh_vret i95_15 m95 rfl
end
section
def l3_68  : Nat → Option Nat → Int32 → xH → Option xH
  | 0 => fun _ _ _ => none
  | n + 1 => fun o0 x1 h => (xgR h o0 1 2).bind fun a_1 => (xaN h a_1).bind fun v_2 => (if v_2 ≤ x1 then some h else (xgR h o0 1 2).bind fun a_4 => (some (xnew h (6, [.int 0, .int 0, .int 0, .int 0, .int 0, .int 0, .int 0, .null]))).bind fun h_5 => (xcv h_5 (some h.1) 6).bind fun _ => (fn59 (some h.1) h_5).bind fun h_6 => (xaT h_6 a_4 x1 (some h.1)).bind fun h_7 => l3_68 n o0 (x1 + 1) h_7)
theorem l3_68_ok {xs : List Int32} {d : Nat} (hd : 2 ≤ d) : ∀ (n : Nat) {o0 : Option Nat} {x1 : Int32} {h : xH} {r : xH}, l3_68 n o0 x1 h = some r → xEv (xTa xs) d 3 (68, [xrv o0, .int x1], [], h) (none, r) := by
  intro n
  induction n with
  | zero => intros; rename_i hf; cases hf
  | succ n ih =>
    intro o0 x1 h r hf
    replace hf : ((xgR h o0 1 2).bind fun a_1 => (xaN h a_1).bind fun v_2 => (if v_2 ≤ x1 then some h else (xgR h o0 1 2).bind fun a_4 => (some (xnew h (6, [.int 0, .int 0, .int 0, .int 0, .int 0, .int 0, .int 0, .null]))).bind fun h_5 => (xcv h_5 (some h.1) 6).bind fun _ => (fn59 (some h.1) h_5).bind fun h_6 => (xaT h_6 a_4 x1 (some h.1)).bind fun h_7 => l3_68 n o0 (x1 + 1) h_7)) = some r := hf
    refine ev_do i3_68 rfl ?_
    refine sh_aload (i' := 0) (n := 1) i3_69 (Or.inr ⟨rfl, by decide⟩) rfl ?_
    obtain ⟨a_1, ea_1, hf⟩ := x_bind hf
    refine sh_getR i3_70 f3_29 ea_1 ?_
    obtain ⟨v_2, ev_2, hf⟩ := x_bind hf
    refine sh_len i3_73 ev_2 ?_
    refine ev_icmp (t := 96) i3_74 rfl (fun c_3 => ?_) (fun c_3 => ?_)
    · replace hf := x_pos (show v_2 ≤ x1 from c_3) hf
      obtain rfl := Option.some.inj hf
      exact sh_vret i3_96 m3 rfl
    · replace hf := x_neg (show ¬ v_2 ≤ x1 from c_3) hf
      refine sh_aload (i' := 0) (n := 1) i3_77 (Or.inr ⟨rfl, by decide⟩) rfl ?_
      obtain ⟨a_4, ea_4, hf⟩ := x_bind hf
      refine sh_getR i3_78 f3_29 ea_4 ?_
      refine ev_do i3_81 rfl ?_
      obtain ⟨h_5, eh_5, hf⟩ := x_bind hf
      refine sh_new (fs := [.int 0, .int 0, .int 0, .int 0, .int 0, .int 0, .int 0, .null]) i3_82 c3_27 (by decide) rfl ?_
      rw [Option.some.inj eh_5]
      refine sh_dup i3_85 (xrv_cat (some h.1)) ?_
      obtain ⟨_, eu_8, hf⟩ := x_bind hf
      obtain ⟨h_6, eh_6, hf⟩ := x_bind hf
      refine sh_inv (as := []) (z := (none, h_6)) i3_86 v3_33 (Or.inr ⟨by decide, rfl⟩) m59 rfl (by simp [xcat, xrv_cat, xc_i, xc_j, xc_a, xc_f]) eu_8 (fn59_call (by omega) eh_6) ?_
      obtain ⟨h_7, eh_7, hf⟩ := x_bind hf
      refine sh_asT i3_89 eh_7 ?_
      refine sh_inc (i' := 1) i3_90 rfl (xokst_of (Nat.le_of_ble_eq_true rfl) (xrv_cat (o0))) rfl ?_
      refine sh_goto (t := 68) i3_93 rfl ?_
      exact ih hf
def l3_29  : Nat → Option Nat → Int32 → xH → Option xH
  | 0 => fun _ _ _ => none
  | n + 1 => fun o0 x1 h => (xgR h o0 1 1).bind fun a_1 => (xaN h a_1).bind fun v_2 => (if v_2 ≤ x1 then (xnA h 17 .null 120).bind fun h_4 => (xpF h_4 o0 1 2 (.array (.object "DocFormat$Piece")) (xrv (some h.1))).bind fun h_5 => l3_68 xFuel o0 0 h_5 else (xgR h o0 1 1).bind fun a_6 => (some (xnew h (0, [.null, .int 0, .int 0, .int 0, .int 0, .int 0, .int 0, .int 0, .int 0, .null]))).bind fun h_7 => (xcv h_7 (some h.1) 0).bind fun _ => (fn0 (some h.1) h_7).bind fun h_8 => (xaT h_8 a_6 x1 (some h.1)).bind fun h_9 => l3_29 n o0 (x1 + 1) h_9)
theorem l3_29_ok {xs : List Int32} {d : Nat} (hd : 2 ≤ d) : ∀ (n : Nat) {o0 : Option Nat} {x1 : Int32} {h : xH} {r : xH}, l3_29 n o0 x1 h = some r → xEv (xTa xs) d 3 (29, [xrv o0, .int x1], [], h) (none, r) := by
  intro n
  induction n with
  | zero => intros; rename_i hf; cases hf
  | succ n ih =>
    intro o0 x1 h r hf
    replace hf : ((xgR h o0 1 1).bind fun a_1 => (xaN h a_1).bind fun v_2 => (if v_2 ≤ x1 then (xnA h 17 .null 120).bind fun h_4 => (xpF h_4 o0 1 2 (.array (.object "DocFormat$Piece")) (xrv (some h.1))).bind fun h_5 => l3_68 xFuel o0 0 h_5 else (xgR h o0 1 1).bind fun a_6 => (some (xnew h (0, [.null, .int 0, .int 0, .int 0, .int 0, .int 0, .int 0, .int 0, .int 0, .null]))).bind fun h_7 => (xcv h_7 (some h.1) 0).bind fun _ => (fn0 (some h.1) h_7).bind fun h_8 => (xaT h_8 a_6 x1 (some h.1)).bind fun h_9 => l3_29 n o0 (x1 + 1) h_9)) = some r := hf
    refine ev_do i3_29 rfl ?_
    refine sh_aload (i' := 0) (n := 1) i3_30 (Or.inr ⟨rfl, by decide⟩) rfl ?_
    obtain ⟨a_1, ea_1, hf⟩ := x_bind hf
    refine sh_getR i3_31 f3_22 ea_1 ?_
    obtain ⟨v_2, ev_2, hf⟩ := x_bind hf
    refine sh_len i3_34 ev_2 ?_
    refine ev_icmp (t := 57) i3_35 rfl (fun c_3 => ?_) (fun c_3 => ?_)
    · replace hf := x_pos (show v_2 ≤ x1 from c_3) hf
      refine sh_aload (i' := 0) (n := 1) i3_57 (Or.inr ⟨rfl, by decide⟩) rfl ?_
      refine ev_do i3_58 rfl ?_
      obtain ⟨h_4, eh_4, hf⟩ := x_bind hf
      refine sh_newa (tg := 17) (n := 3) (v := .null) i3_60 (fun _ _ _ => by show (match xtA (xTa xs) 3 27 with | some tg => if 15 ≤ tg ∧ tg < 19 then xmka tg 3 .null _ _ _ _ else none | none => none) = _; rw [a3_27]; rfl) eh_4 ?_
      obtain ⟨h_5, eh_5, hf⟩ := x_bind hf
      refine sh_put i3_63 f3_29 (by decide) rfl eh_5 ?_
      refine ev_do i3_66 rfl ?_
      refine sh_istore (i' := 1) (n := 1) i3_67 (Or.inr ⟨rfl, by decide⟩) (xokst_of (Nat.le_of_ble_eq_true rfl) (xrv_cat (o0))) ?_
      exact l3_68_ok hd xFuel hf
    · replace hf := x_neg (show ¬ v_2 ≤ x1 from c_3) hf
      refine sh_aload (i' := 0) (n := 1) i3_38 (Or.inr ⟨rfl, by decide⟩) rfl ?_
      obtain ⟨a_6, ea_6, hf⟩ := x_bind hf
      refine sh_getR i3_39 f3_22 ea_6 ?_
      refine ev_do i3_42 rfl ?_
      obtain ⟨h_7, eh_7, hf⟩ := x_bind hf
      refine sh_new (fs := [.null, .int 0, .int 0, .int 0, .int 0, .int 0, .int 0, .int 0, .int 0, .null]) i3_43 c3_20 (by decide) rfl ?_
      rw [Option.some.inj eh_7]
      refine sh_dup i3_46 (xrv_cat (some h.1)) ?_
      obtain ⟨_, eu_10, hf⟩ := x_bind hf
      obtain ⟨h_8, eh_8, hf⟩ := x_bind hf
      refine sh_inv (as := []) (z := (none, h_8)) i3_47 v3_26 (Or.inr ⟨by decide, rfl⟩) m0 rfl (by simp [xcat, xrv_cat, xc_i, xc_j, xc_a, xc_f]) eu_10 (fn0_call (by omega) eh_8) ?_
      obtain ⟨h_9, eh_9, hf⟩ := x_bind hf
      refine sh_asT i3_50 eh_9 ?_
      refine sh_inc (i' := 1) i3_51 rfl (xokst_of (Nat.le_of_ble_eq_true rfl) (xrv_cat (o0))) rfl ?_
      refine sh_goto (t := 29) i3_54 rfl ?_
      exact ih hf
def fn3 (o0 : Option Nat) (h : xH) : Option xH := (o0).bind fun a_1 => (some (xnew h (9, [.null, .int 0]))).bind fun h_2 => (xcv h_2 (some h.1) 9).bind fun _ => (fn95 (some h.1) 600 h_2).bind fun h_3 => (xpF h_3 o0 1 0 (.object "DocFormat$Text") (xrv (some h.1))).bind fun h_4 => (xnA h_4 15 .null 25).bind fun h_5 => (xpF h_5 o0 1 1 (.array (.object "DocFormat$Block")) (xrv (some h_4.1))).bind fun h_6 => l3_29 xFuel o0 0 h_6
theorem fn3_call {xs : List Int32} {d : Nat} (hd : 3 ≤ d) {o0 : Option Nat} {h : xH} {r : xH} (hf : fn3 o0 h = some r) : xCall (xTa xs) d 3 [xrv o0] h (none, r) := by
  obtain ⟨d, rfl⟩ : ∃ d2, d = d2 + 1 := ⟨d - 1, by omega⟩
  replace hd : 2 ≤ d := by omega
  refine call_of2 (fl := [xrv o0]) (Ls := [xrv o0, .float 0]) m3 (by simp [xfl, xrv_cat, xc_i, xc_j, xc_a, xc_f]) (Nat.le_of_ble_eq_true rfl) rfl ?_
  unfold fn3 at hf
  refine sh_aload (i' := 0) (n := 1) i3_0 (Or.inr ⟨rfl, by decide⟩) rfl ?_
  obtain ⟨a_1, ea_1, hf⟩ := x_bind hf
  refine sh_obj i3_1 v3_3 (Nat.le_of_ble_eq_true rfl) ea_1 ?_
  refine sh_aload (i' := 0) (n := 1) i3_4 (Or.inr ⟨rfl, by decide⟩) rfl ?_
  obtain ⟨h_2, eh_2, hf⟩ := x_bind hf
  refine sh_new (fs := [.null, .int 0]) i3_5 c3_9 (by decide) rfl ?_
  rw [Option.some.inj eh_2]
  refine sh_dup i3_8 (xrv_cat (some h.1)) ?_
  refine ev_do i3_9 rfl ?_
  obtain ⟨_, eu_7, hf⟩ := x_bind hf
  obtain ⟨h_3, eh_3, hf⟩ := x_bind hf
  refine sh_inv (as := [.int 600]) (z := (none, h_3)) i3_12 v3_11 (Or.inr ⟨by decide, rfl⟩) m95 rfl (by simp [xcat, xrv_cat, xc_i, xc_j, xc_a, xc_f]) eu_7 (fn95_call (by omega) eh_3) ?_
  obtain ⟨h_4, eh_4, hf⟩ := x_bind hf
  refine sh_put i3_15 f3_14 (by decide) rfl eh_4 ?_
  refine sh_aload (i' := 0) (n := 1) i3_18 (Or.inr ⟨rfl, by decide⟩) rfl ?_
  refine ev_do i3_19 rfl ?_
  obtain ⟨h_5, eh_5, hf⟩ := x_bind hf
  refine sh_newa (tg := 15) (n := 3) (v := .null) i3_21 (fun _ _ _ => by show (match xtA (xTa xs) 3 20 with | some tg => if 15 ≤ tg ∧ tg < 19 then xmka tg 3 .null _ _ _ _ else none | none => none) = _; rw [a3_20]; rfl) eh_5 ?_
  obtain ⟨h_6, eh_6, hf⟩ := x_bind hf
  refine sh_put i3_24 f3_22 (by decide) rfl eh_6 ?_
  refine ev_do i3_27 rfl ?_
  refine sh_istore (i' := 1) (n := 1) i3_28 (Or.inr ⟨rfl, by decide⟩) (xokst_of (Nat.le_of_ble_eq_true rfl) (xrv_cat (o0))) ?_
  exact l3_29_ok hd xFuel hf
end
section
def j96_26  (o0 : Option Nat) (x1 : Int32) (s0 : Int32) (h : xH) : Option (Int32 × xH) := some (s0, h)
theorem j96_26_ok {xs : List Int32} {d : Nat} (hd : 1 ≤ d) {o0 : Option Nat} {x1 : Int32} {s0 : Int32} {h : xH} {r : (Int32 × xH)} (hf : j96_26 o0 x1 s0 h = some r) : xEv (xTa xs) d 96 (26, [xrv o0, .int x1], [.int s0], h) (some (.int r.1), r.2) := by
  unfold j96_26 at hf
  obtain rfl := Option.some.inj hf
  exact sh_iret i96_26 m96 rfl rfl
def j96_12  (o0 : Option Nat) (x1 : Int32) (h : xH) : Option (Int32 × xH) := j96_26 o0 x1 (-1) h
theorem j96_12_ok {xs : List Int32} {d : Nat} (hd : 1 ≤ d) {o0 : Option Nat} {x1 : Int32} {h : xH} {r : (Int32 × xH)} (hf : j96_12 o0 x1 h = some r) : xEv (xTa xs) d 96 (12, [xrv o0, .int x1], [], h) (some (.int r.1), r.2) := by
  unfold j96_12 at hf
  refine ev_do i96_12 rfl ?_
  refine sh_goto (t := 26) i96_13 rfl ?_
  exact j96_26_ok hd hf
def fn96 (o0 : Option Nat) (x1 : Int32) (h : xH) : Option (Int32 × xH) := (if x1 < 0 then j96_12 o0 x1 h else (xgI h o0 9 1).bind fun v_2 => (if x1 < v_2 then (xgR h o0 9 0).bind fun a_4 => (xaI h 12 a_4 x1).bind fun v_5 => j96_26 o0 x1 (v_5 &&& 255) h else j96_12 o0 x1 h))
theorem fn96_call {xs : List Int32} {d : Nat} (hd : 2 ≤ d) {o0 : Option Nat} {x1 : Int32} {h : xH} {r : (Int32 × xH)} (hf : fn96 o0 x1 h = some r) : xCall (xTa xs) d 96 [xrv o0, .int x1] h (some (.int r.1), r.2) := by
  obtain ⟨d, rfl⟩ : ∃ d2, d = d2 + 1 := ⟨d - 1, by omega⟩
  replace hd : 1 ≤ d := by omega
  refine call_of2 (fl := [xrv o0, .int x1]) (Ls := [xrv o0, .int x1]) m96 (by simp [xfl, xrv_cat, xc_i, xc_j, xc_a, xc_f]) (Nat.le_of_ble_eq_true rfl) rfl ?_
  unfold fn96 at hf
  refine ev_do i96_0 rfl ?_
  refine ev_if (t := 12) i96_1 rfl (fun c_1 => ?_) (fun c_1 => ?_)
  · replace hf := x_pos (show x1 < 0 from c_1) hf
    exact j96_12_ok hd hf
  · replace hf := x_neg (show ¬ x1 < 0 from c_1) hf
    refine ev_do i96_4 rfl ?_
    refine sh_aload (i' := 0) (n := 1) i96_5 (Or.inr ⟨rfl, by decide⟩) rfl ?_
    obtain ⟨v_2, ev_2, hf⟩ := x_bind hf
    refine sh_getI i96_6 f96_21 ev_2 ?_
    refine ev_icmp (t := 16) i96_9 rfl (fun c_3 => ?_) (fun c_3 => ?_)
    · replace hf := x_pos (show x1 < v_2 from c_3) hf
      refine sh_aload (i' := 0) (n := 1) i96_16 (Or.inr ⟨rfl, by decide⟩) rfl ?_
      obtain ⟨a_4, ea_4, hf⟩ := x_bind hf
      refine sh_getR i96_17 f96_15 ea_4 ?_
      refine ev_do i96_20 rfl ?_
      obtain ⟨v_5, ev_5, hf⟩ := x_bind hf
      refine sh_aldI (tg := 12) i96_21 (Or.inr (Or.inl ⟨rfl, rfl⟩)) ev_5 ?_
      refine ev_do i96_22 rfl ?_
      refine ev_do i96_25 rfl ?_
      exact j96_26_ok hd hf
    · replace hf := x_neg (show ¬ x1 < v_2 from c_3) hf
      exact j96_12_ok hd hf
end
section
def fn97 (o0 : Option Nat) (x1 : Int32) (h : xH) : Option (Int32 × xH) := (xgI h o0 9 1).bind fun v_1 => (xgR h o0 9 0).bind fun a_2 => (xaN h a_2).bind fun v_3 => (if v_1 < v_3 then (xgR h o0 9 0).bind fun a_5 => (xgI h o0 9 1).bind fun v_6 => (xaS h 12 (vp_nar .byte) a_5 v_6 x1.toInt8.toInt32).bind fun h_7 => (xgI h_7 o0 9 1).bind fun v_8 => (xpF h_7 o0 9 1 .int (.int (v_8 + 1))).bind fun h_9 => some (1, h_9) else some (0, h))
theorem fn97_call {xs : List Int32} {d : Nat} (hd : 2 ≤ d) {o0 : Option Nat} {x1 : Int32} {h : xH} {r : (Int32 × xH)} (hf : fn97 o0 x1 h = some r) : xCall (xTa xs) d 97 [xrv o0, .int x1] h (some (.int r.1), r.2) := by
  obtain ⟨d, rfl⟩ : ∃ d2, d = d2 + 1 := ⟨d - 1, by omega⟩
  replace hd : 1 ≤ d := by omega
  refine call_of2 (fl := [xrv o0, .int x1]) (Ls := [xrv o0, .int x1]) m97 (by simp [xfl, xrv_cat, xc_i, xc_j, xc_a, xc_f]) (Nat.le_of_ble_eq_true rfl) rfl ?_
  unfold fn97 at hf
  refine sh_aload (i' := 0) (n := 1) i97_0 (Or.inr ⟨rfl, by decide⟩) rfl ?_
  obtain ⟨v_1, ev_1, hf⟩ := x_bind hf
  refine sh_getI i97_1 f97_21 ev_1 ?_
  refine sh_aload (i' := 0) (n := 1) i97_4 (Or.inr ⟨rfl, by decide⟩) rfl ?_
  obtain ⟨a_2, ea_2, hf⟩ := x_bind hf
  refine sh_getR i97_5 f97_15 ea_2 ?_
  obtain ⟨v_3, ev_3, hf⟩ := x_bind hf
  refine sh_len i97_8 ev_3 ?_
  refine ev_icmp (t := 14) i97_9 rfl (fun c_4 => ?_) (fun c_4 => ?_)
  · replace hf := x_pos (show v_1 < v_3 from c_4) hf
    refine sh_aload (i' := 0) (n := 1) i97_14 (Or.inr ⟨rfl, by decide⟩) rfl ?_
    obtain ⟨a_5, ea_5, hf⟩ := x_bind hf
    refine sh_getR i97_15 f97_15 ea_5 ?_
    refine sh_aload (i' := 0) (n := 1) i97_18 (Or.inr ⟨rfl, by decide⟩) rfl ?_
    obtain ⟨v_6, ev_6, hf⟩ := x_bind hf
    refine sh_getI i97_19 f97_21 ev_6 ?_
    refine ev_do i97_22 rfl ?_
    refine ev_do i97_23 rfl ?_
    obtain ⟨h_7, eh_7, hf⟩ := x_bind hf
    refine sh_ast (tg := 12) i97_24 (Or.inr (Or.inl ⟨rfl, rfl, rfl⟩)) eh_7 ?_
    refine sh_aload (i' := 0) (n := 1) i97_25 (Or.inr ⟨rfl, by decide⟩) rfl ?_
    refine sh_dup i97_26 (xrv_cat (o0)) ?_
    obtain ⟨v_8, ev_8, hf⟩ := x_bind hf
    refine sh_getI i97_27 f97_21 ev_8 ?_
    refine ev_do i97_30 rfl ?_
    refine ev_do i97_31 rfl ?_
    obtain ⟨h_9, eh_9, hf⟩ := x_bind hf
    refine sh_put i97_32 f97_21 (by decide) rfl eh_9 ?_
    refine ev_do i97_35 rfl ?_
    obtain rfl := Option.some.inj hf
    exact sh_iret i97_36 m97 rfl (by decide)
  · replace hf := x_neg (show ¬ v_1 < v_3 from c_4) hf
    refine ev_do i97_12 rfl ?_
    obtain rfl := Option.some.inj hf
    exact sh_iret i97_13 m97 rfl (by decide)
end
section
def l100_3  : Nat → Option Nat → Option Nat → Int32 → Int32 → Int32 → xH → Option xH
  | 0 => fun _ _ _ _ _ _ => none
  | n + 1 => fun o0 o1 x2 x3 x4 h => (if x3 ≤ x4 then some h else (xcv h o1 9).bind fun _ => (fn96 o1 x4 h).bind fun r_2 => (xcv r_2.2 o0 9).bind fun _ => (fn97 o0 r_2.1 r_2.2).bind fun r_3 => l100_3 n o0 o1 x2 x3 (x4 + 1) r_3.2)
theorem l100_3_ok {xs : List Int32} {d : Nat} (hd : 2 ≤ d) : ∀ (n : Nat) {o0 : Option Nat} {o1 : Option Nat} {x2 : Int32} {x3 : Int32} {x4 : Int32} {h : xH} {r : xH}, l100_3 n o0 o1 x2 x3 x4 h = some r → xEv (xTa xs) d 100 (3, [xrv o0, xrv o1, .int x2, .int x3, .int x4], [], h) (none, r) := by
  intro n
  induction n with
  | zero => intros; rename_i hf; cases hf
  | succ n ih =>
    intro o0 o1 x2 x3 x4 h r hf
    replace hf : ((if x3 ≤ x4 then some h else (xcv h o1 9).bind fun _ => (fn96 o1 x4 h).bind fun r_2 => (xcv r_2.2 o0 9).bind fun _ => (fn97 o0 r_2.1 r_2.2).bind fun r_3 => l100_3 n o0 o1 x2 x3 (x4 + 1) r_3.2)) = some r := hf
    refine ev_do i100_3 rfl ?_
    refine ev_do i100_5 rfl ?_
    refine ev_icmp (t := 26) i100_6 rfl (fun c_1 => ?_) (fun c_1 => ?_)
    · replace hf := x_pos (show x3 ≤ x4 from c_1) hf
      obtain rfl := Option.some.inj hf
      exact sh_vret i100_26 m100 rfl
    · replace hf := x_neg (show ¬ x3 ≤ x4 from c_1) hf
      refine sh_aload (i' := 0) (n := 1) i100_9 (Or.inr ⟨rfl, by decide⟩) rfl ?_
      refine sh_aload (i' := 1) (n := 1) i100_10 (Or.inr ⟨rfl, by decide⟩) rfl ?_
      refine ev_do i100_11 rfl ?_
      obtain ⟨_, eu_5, hf⟩ := x_bind hf
      obtain ⟨r_2, er_2, hf⟩ := x_bind hf
      refine sh_inv (as := [.int x4]) (z := (some (.int r_2.1), r_2.2)) i100_13 v100_39 (Or.inl ⟨by decide, rfl⟩) m96 rfl (by simp [xcat, xrv_cat, xc_i, xc_j, xc_a, xc_f]) eu_5 (fn96_call (by omega) er_2) ?_
      obtain ⟨_, eu_4, hf⟩ := x_bind hf
      obtain ⟨r_3, er_3, hf⟩ := x_bind hf
      refine sh_inv (as := [.int r_2.1]) (z := (some (.int r_3.1), r_3.2)) i100_16 v100_25 (Or.inl ⟨by decide, rfl⟩) m97 rfl (Nat.le_of_ble_eq_true rfl) eu_4 (fn97_call (by omega) er_3) ?_
      refine sh_pop i100_19 rfl ?_
      refine sh_inc (i' := 4) i100_20 rfl (xokst_of (Nat.le_of_ble_eq_true rfl) rfl) rfl ?_
      refine sh_goto (t := 3) i100_23 rfl ?_
      exact ih hf
def fn100 (o0 : Option Nat) (o1 : Option Nat) (x2 : Int32) (x3 : Int32) (h : xH) : Option xH := l100_3 xFuel o0 o1 x2 x3 x2 h
theorem fn100_call {xs : List Int32} {d : Nat} (hd : 3 ≤ d) {o0 : Option Nat} {o1 : Option Nat} {x2 : Int32} {x3 : Int32} {h : xH} {r : xH} (hf : fn100 o0 o1 x2 x3 h = some r) : xCall (xTa xs) d 100 [xrv o0, xrv o1, .int x2, .int x3] h (none, r) := by
  obtain ⟨d, rfl⟩ : ∃ d2, d = d2 + 1 := ⟨d - 1, by omega⟩
  replace hd : 2 ≤ d := by omega
  refine call_of2 (fl := [xrv o0, xrv o1, .int x2, .int x3]) (Ls := [xrv o0, xrv o1, .int x2, .int x3, .float 0]) m100 (by simp [xfl, xrv_cat, xc_i, xc_j, xc_a, xc_f]) (Nat.le_of_ble_eq_true rfl) rfl ?_
  unfold fn100 at hf
  refine ev_do i100_0 rfl ?_
  refine sh_istore (i' := 4) (n := 2) i100_1 (Or.inl rfl) (xokst_of (Nat.le_of_ble_eq_true rfl) rfl) ?_
  exact l100_3_ok hd xFuel hf
end
section
def fn102 (o0 : Option Nat) (o1 : Option Nat) (h : xH) : Option xH := (xpF h o0 9 1 .int (.int 0)).bind fun h_1 => (xgI h_1 o1 9 1).bind fun v_2 => (xcv h_1 o0 9).bind fun _ => (fn100 o0 o1 0 v_2 h_1).bind fun h_3 => some h_3
theorem fn102_call {xs : List Int32} {d : Nat} (hd : 4 ≤ d) {o0 : Option Nat} {o1 : Option Nat} {h : xH} {r : xH} (hf : fn102 o0 o1 h = some r) : xCall (xTa xs) d 102 [xrv o0, xrv o1] h (none, r) := by
  obtain ⟨d, rfl⟩ : ∃ d2, d = d2 + 1 := ⟨d - 1, by omega⟩
  replace hd : 3 ≤ d := by omega
  refine call_of2 (fl := [xrv o0, xrv o1]) (Ls := [xrv o0, xrv o1]) m102 (by simp [xfl, xrv_cat, xc_i, xc_j, xc_a, xc_f]) (Nat.le_of_ble_eq_true rfl) rfl ?_
  unfold fn102 at hf
  refine sh_aload (i' := 0) (n := 1) i102_0 (Or.inr ⟨rfl, by decide⟩) rfl ?_
  refine ev_do i102_1 rfl ?_
  obtain ⟨h_1, eh_1, hf⟩ := x_bind hf
  refine sh_put i102_2 f102_21 (by decide) rfl eh_1 ?_
  refine sh_aload (i' := 0) (n := 1) i102_5 (Or.inr ⟨rfl, by decide⟩) rfl ?_
  refine sh_aload (i' := 1) (n := 1) i102_6 (Or.inr ⟨rfl, by decide⟩) rfl ?_
  refine ev_do i102_7 rfl ?_
  refine sh_aload (i' := 1) (n := 1) i102_8 (Or.inr ⟨rfl, by decide⟩) rfl ?_
  obtain ⟨v_2, ev_2, hf⟩ := x_bind hf
  refine sh_getI i102_9 f102_21 ev_2 ?_
  obtain ⟨_, eu_4, hf⟩ := x_bind hf
  obtain ⟨h_3, eh_3, hf⟩ := x_bind hf
  refine sh_inv (as := [.int v_2, .int 0, xrv o1]) (z := (none, h_3)) i102_12 v102_43 (Or.inl ⟨by decide, rfl⟩) m100 rfl (Nat.le_of_ble_eq_true rfl) eu_4 (fn100_call (by omega) eh_3) ?_
  obtain rfl := Option.some.inj hf
  exact sh_vret i102_15 m102 rfl
end
section
def fn4 (o0 : Option Nat) (o1 : Option Nat) (o2 : Option Nat) (h : xH) : Option xH := (xgR h o0 1 0).bind fun a_1 => (xcv h a_1 9).bind fun _ => (fn102 a_1 o1 h).bind fun h_2 => (xpF h_2 o0 1 5 (.object "DocFormat$Entry") (xrv o2)).bind fun h_3 => (xpF h_3 o0 1 3 .int (.int 0)).bind fun h_4 => (xpF h_4 o0 1 4 .int (.int 0)).bind fun h_5 => some h_5
theorem fn4_call {xs : List Int32} {d : Nat} (hd : 5 ≤ d) {o0 : Option Nat} {o1 : Option Nat} {o2 : Option Nat} {h : xH} {r : xH} (hf : fn4 o0 o1 o2 h = some r) : xCall (xTa xs) d 4 [xrv o0, xrv o1, xrv o2] h (none, r) := by
  obtain ⟨d, rfl⟩ : ∃ d2, d = d2 + 1 := ⟨d - 1, by omega⟩
  replace hd : 4 ≤ d := by omega
  refine call_of2 (fl := [xrv o0, xrv o1, xrv o2]) (Ls := [xrv o0, xrv o1, xrv o2]) m4 (by simp [xfl, xrv_cat, xc_i, xc_j, xc_a, xc_f]) (Nat.le_of_ble_eq_true rfl) rfl ?_
  unfold fn4 at hf
  refine sh_aload (i' := 0) (n := 1) i4_0 (Or.inr ⟨rfl, by decide⟩) rfl ?_
  obtain ⟨a_1, ea_1, hf⟩ := x_bind hf
  refine sh_getR i4_1 f4_14 ea_1 ?_
  refine sh_aload (i' := 1) (n := 1) i4_4 (Or.inr ⟨rfl, by decide⟩) rfl ?_
  obtain ⟨_, eu_6, hf⟩ := x_bind hf
  obtain ⟨h_2, eh_2, hf⟩ := x_bind hf
  refine sh_inv (as := [xrv o1]) (z := (none, h_2)) i4_5 v4_34 (Or.inl ⟨by decide, rfl⟩) m102 rfl (Nat.le_of_ble_eq_true rfl) eu_6 (fn102_call (by omega) eh_2) ?_
  refine sh_aload (i' := 0) (n := 1) i4_8 (Or.inr ⟨rfl, by decide⟩) rfl ?_
  refine sh_aload (i' := 2) (n := 1) i4_9 (Or.inr ⟨rfl, by decide⟩) rfl ?_
  obtain ⟨h_3, eh_3, hf⟩ := x_bind hf
  refine sh_put i4_10 f4_38 (by decide) rfl eh_3 ?_
  refine sh_aload (i' := 0) (n := 1) i4_13 (Or.inr ⟨rfl, by decide⟩) rfl ?_
  refine ev_do i4_14 rfl ?_
  obtain ⟨h_4, eh_4, hf⟩ := x_bind hf
  refine sh_put i4_15 f4_42 (by decide) rfl eh_4 ?_
  refine sh_aload (i' := 0) (n := 1) i4_18 (Or.inr ⟨rfl, by decide⟩) rfl ?_
  refine ev_do i4_19 rfl ?_
  obtain ⟨h_5, eh_5, hf⟩ := x_bind hf
  refine sh_put i4_20 f4_46 (by decide) rfl eh_5 ?_
  obtain rfl := Option.some.inj hf
  exact sh_vret i4_23 m4 rfl
end
section
def j5_22  (o0 : Option Nat) (x1 : Int32) (s0 : Option Nat) (h : xH) : Option (Option Nat × xH) := some (s0, h)
theorem j5_22_ok {xs : List Int32} {d : Nat} (hd : 1 ≤ d) {o0 : Option Nat} {x1 : Int32} {s0 : Option Nat} {h : xH} {r : (Option Nat × xH)} (hf : j5_22 o0 x1 s0 h = some r) : xEv (xTa xs) d 5 (22, [xrv o0, .int x1], [xrv s0], h) (some (xrv r.1), r.2) := by
  unfold j5_22 at hf
  obtain rfl := Option.some.inj hf
  exact sh_aret i5_22 m5 rfl
def j5_12  (o0 : Option Nat) (x1 : Int32) (h : xH) : Option (Option Nat × xH) := j5_22 o0 x1 none h
theorem j5_12_ok {xs : List Int32} {d : Nat} (hd : 1 ≤ d) {o0 : Option Nat} {x1 : Int32} {h : xH} {r : (Option Nat × xH)} (hf : j5_12 o0 x1 h = some r) : xEv (xTa xs) d 5 (12, [xrv o0, .int x1], [], h) (some (xrv r.1), r.2) := by
  unfold j5_12 at hf
  refine sh_cnull i5_12 ?_
  refine sh_goto (t := 22) i5_13 rfl ?_
  exact j5_22_ok hd hf
def fn5 (o0 : Option Nat) (x1 : Int32) (h : xH) : Option (Option Nat × xH) := (if x1 < 0 then j5_12 o0 x1 h else (xgI h o0 1 3).bind fun v_2 => (if x1 < v_2 then (xgR h o0 1 1).bind fun a_4 => (xaR h a_4 x1).bind fun a_5 => j5_22 o0 x1 a_5 h else j5_12 o0 x1 h))
theorem fn5_call {xs : List Int32} {d : Nat} (hd : 2 ≤ d) {o0 : Option Nat} {x1 : Int32} {h : xH} {r : (Option Nat × xH)} (hf : fn5 o0 x1 h = some r) : xCall (xTa xs) d 5 [xrv o0, .int x1] h (some (xrv r.1), r.2) := by
  obtain ⟨d, rfl⟩ : ∃ d2, d = d2 + 1 := ⟨d - 1, by omega⟩
  replace hd : 1 ≤ d := by omega
  refine call_of2 (fl := [xrv o0, .int x1]) (Ls := [xrv o0, .int x1]) m5 (by simp [xfl, xrv_cat, xc_i, xc_j, xc_a, xc_f]) (Nat.le_of_ble_eq_true rfl) rfl ?_
  unfold fn5 at hf
  refine ev_do i5_0 rfl ?_
  refine ev_if (t := 12) i5_1 rfl (fun c_1 => ?_) (fun c_1 => ?_)
  · replace hf := x_pos (show x1 < 0 from c_1) hf
    exact j5_12_ok hd hf
  · replace hf := x_neg (show ¬ x1 < 0 from c_1) hf
    refine ev_do i5_4 rfl ?_
    refine sh_aload (i' := 0) (n := 1) i5_5 (Or.inr ⟨rfl, by decide⟩) rfl ?_
    obtain ⟨v_2, ev_2, hf⟩ := x_bind hf
    refine sh_getI i5_6 f5_42 ev_2 ?_
    refine ev_icmp (t := 16) i5_9 rfl (fun c_3 => ?_) (fun c_3 => ?_)
    · replace hf := x_pos (show x1 < v_2 from c_3) hf
      refine sh_aload (i' := 0) (n := 1) i5_16 (Or.inr ⟨rfl, by decide⟩) rfl ?_
      obtain ⟨a_4, ea_4, hf⟩ := x_bind hf
      refine sh_getR i5_17 f5_22 ea_4 ?_
      refine ev_do i5_20 rfl ?_
      obtain ⟨a_5, ea_5, hf⟩ := x_bind hf
      refine sh_aldR i5_21 ea_5 ?_
      exact j5_22_ok hd hf
    · replace hf := x_neg (show ¬ x1 < v_2 from c_3) hf
      exact j5_12_ok hd hf
end
section
def j6_22  (o0 : Option Nat) (x1 : Int32) (s0 : Option Nat) (h : xH) : Option (Option Nat × xH) := some (s0, h)
theorem j6_22_ok {xs : List Int32} {d : Nat} (hd : 1 ≤ d) {o0 : Option Nat} {x1 : Int32} {s0 : Option Nat} {h : xH} {r : (Option Nat × xH)} (hf : j6_22 o0 x1 s0 h = some r) : xEv (xTa xs) d 6 (22, [xrv o0, .int x1], [xrv s0], h) (some (xrv r.1), r.2) := by
  unfold j6_22 at hf
  obtain rfl := Option.some.inj hf
  exact sh_aret i6_22 m6 rfl
def j6_12  (o0 : Option Nat) (x1 : Int32) (h : xH) : Option (Option Nat × xH) := j6_22 o0 x1 none h
theorem j6_12_ok {xs : List Int32} {d : Nat} (hd : 1 ≤ d) {o0 : Option Nat} {x1 : Int32} {h : xH} {r : (Option Nat × xH)} (hf : j6_12 o0 x1 h = some r) : xEv (xTa xs) d 6 (12, [xrv o0, .int x1], [], h) (some (xrv r.1), r.2) := by
  unfold j6_12 at hf
  refine sh_cnull i6_12 ?_
  refine sh_goto (t := 22) i6_13 rfl ?_
  exact j6_22_ok hd hf
def fn6 (o0 : Option Nat) (x1 : Int32) (h : xH) : Option (Option Nat × xH) := (if x1 < 0 then j6_12 o0 x1 h else (xgI h o0 1 4).bind fun v_2 => (if x1 < v_2 then (xgR h o0 1 2).bind fun a_4 => (xaR h a_4 x1).bind fun a_5 => j6_22 o0 x1 a_5 h else j6_12 o0 x1 h))
theorem fn6_call {xs : List Int32} {d : Nat} (hd : 2 ≤ d) {o0 : Option Nat} {x1 : Int32} {h : xH} {r : (Option Nat × xH)} (hf : fn6 o0 x1 h = some r) : xCall (xTa xs) d 6 [xrv o0, .int x1] h (some (xrv r.1), r.2) := by
  obtain ⟨d, rfl⟩ : ∃ d2, d = d2 + 1 := ⟨d - 1, by omega⟩
  replace hd : 1 ≤ d := by omega
  refine call_of2 (fl := [xrv o0, .int x1]) (Ls := [xrv o0, .int x1]) m6 (by simp [xfl, xrv_cat, xc_i, xc_j, xc_a, xc_f]) (Nat.le_of_ble_eq_true rfl) rfl ?_
  unfold fn6 at hf
  refine ev_do i6_0 rfl ?_
  refine ev_if (t := 12) i6_1 rfl (fun c_1 => ?_) (fun c_1 => ?_)
  · replace hf := x_pos (show x1 < 0 from c_1) hf
    exact j6_12_ok hd hf
  · replace hf := x_neg (show ¬ x1 < 0 from c_1) hf
    refine ev_do i6_4 rfl ?_
    refine sh_aload (i' := 0) (n := 1) i6_5 (Or.inr ⟨rfl, by decide⟩) rfl ?_
    obtain ⟨v_2, ev_2, hf⟩ := x_bind hf
    refine sh_getI i6_6 f6_46 ev_2 ?_
    refine ev_icmp (t := 16) i6_9 rfl (fun c_3 => ?_) (fun c_3 => ?_)
    · replace hf := x_pos (show x1 < v_2 from c_3) hf
      refine sh_aload (i' := 0) (n := 1) i6_16 (Or.inr ⟨rfl, by decide⟩) rfl ?_
      obtain ⟨a_4, ea_4, hf⟩ := x_bind hf
      refine sh_getR i6_17 f6_29 ea_4 ?_
      refine ev_do i6_20 rfl ?_
      obtain ⟨a_5, ea_5, hf⟩ := x_bind hf
      refine sh_aldR i6_21 ea_5 ?_
      exact j6_22_ok hd hf
    · replace hf := x_neg (show ¬ x1 < v_2 from c_3) hf
      exact j6_12_ok hd hf
end
section
def fn7 (o0 : Option Nat) (x1 : Int32) (x2 : Int32) (h : xH) : Option (Option Nat × xH) := (xgI h o0 1 3).bind fun v_1 => (xgR h o0 1 1).bind fun a_2 => (xaN h a_2).bind fun v_3 => (if v_1 < v_3 then (xgR h o0 1 1).bind fun a_5 => (xgI h o0 1 3).bind fun v_6 => (xaR h a_5 v_6).bind fun a_7 => (xgI h o0 1 3).bind fun v_8 => (xpF h o0 1 3 .int (.int (v_8 + 1))).bind fun h_9 => (xpF h_9 a_7 0 0 (.object "DocFormat$Comment") (xrv o0)).bind fun h_10 => (xpF h_10 a_7 0 1 .int (.int x1)).bind fun h_11 => (xpF h_11 a_7 0 2 .int (.int x2)).bind fun h_12 => (xpF h_12 a_7 0 3 .int (.int 0)).bind fun h_13 => (xgI h_13 o0 1 4).bind fun v_14 => (xpF h_13 a_7 0 4 .int (.int v_14)).bind fun h_15 => (xpF h_15 a_7 0 5 .int (.int 0)).bind fun h_16 => (xpF h_16 a_7 0 6 .int (.int 0)).bind fun h_17 => (xpF h_17 a_7 0 7 .int (.int 0)).bind fun h_18 => (xpF h_18 a_7 0 8 .boolean (.int 0)).bind fun h_19 => some (a_7, h_19) else some (none, h))
theorem fn7_call {xs : List Int32} {d : Nat} (hd : 2 ≤ d) {o0 : Option Nat} {x1 : Int32} {x2 : Int32} {h : xH} {r : (Option Nat × xH)} (hf : fn7 o0 x1 x2 h = some r) : xCall (xTa xs) d 7 [xrv o0, .int x1, .int x2] h (some (xrv r.1), r.2) := by
  obtain ⟨d, rfl⟩ : ∃ d2, d = d2 + 1 := ⟨d - 1, by omega⟩
  replace hd : 1 ≤ d := by omega
  refine call_of2 (fl := [xrv o0, .int x1, .int x2]) (Ls := [xrv o0, .int x1, .int x2, .float 0]) m7 (by simp [xfl, xrv_cat, xc_i, xc_j, xc_a, xc_f]) (Nat.le_of_ble_eq_true rfl) rfl ?_
  unfold fn7 at hf
  refine sh_aload (i' := 0) (n := 1) i7_0 (Or.inr ⟨rfl, by decide⟩) rfl ?_
  obtain ⟨v_1, ev_1, hf⟩ := x_bind hf
  refine sh_getI i7_1 f7_42 ev_1 ?_
  refine sh_aload (i' := 0) (n := 1) i7_4 (Or.inr ⟨rfl, by decide⟩) rfl ?_
  obtain ⟨a_2, ea_2, hf⟩ := x_bind hf
  refine sh_getR i7_5 f7_22 ea_2 ?_
  obtain ⟨v_3, ev_3, hf⟩ := x_bind hf
  refine sh_len i7_8 ev_3 ?_
  refine ev_icmp (t := 14) i7_9 rfl (fun c_4 => ?_) (fun c_4 => ?_)
  · replace hf := x_pos (show v_1 < v_3 from c_4) hf
    refine sh_aload (i' := 0) (n := 1) i7_14 (Or.inr ⟨rfl, by decide⟩) rfl ?_
    obtain ⟨a_5, ea_5, hf⟩ := x_bind hf
    refine sh_getR i7_15 f7_22 ea_5 ?_
    refine sh_aload (i' := 0) (n := 1) i7_18 (Or.inr ⟨rfl, by decide⟩) rfl ?_
    obtain ⟨v_6, ev_6, hf⟩ := x_bind hf
    refine sh_getI i7_19 f7_42 ev_6 ?_
    obtain ⟨a_7, ea_7, hf⟩ := x_bind hf
    refine sh_aldR i7_22 ea_7 ?_
    refine sh_astore (i' := 3) (n := 1) i7_23 (Or.inr ⟨rfl, by decide⟩) (xokst_of (Nat.le_of_ble_eq_true rfl) rfl) ?_
    refine sh_aload (i' := 0) (n := 1) i7_24 (Or.inr ⟨rfl, by decide⟩) rfl ?_
    refine sh_dup i7_25 (xrv_cat (o0)) ?_
    obtain ⟨v_8, ev_8, hf⟩ := x_bind hf
    refine sh_getI i7_26 f7_42 ev_8 ?_
    refine ev_do i7_29 rfl ?_
    refine ev_do i7_30 rfl ?_
    obtain ⟨h_9, eh_9, hf⟩ := x_bind hf
    refine sh_put i7_31 f7_42 (by decide) rfl eh_9 ?_
    refine sh_aload (i' := 3) (n := 1) i7_34 (Or.inr ⟨rfl, by decide⟩) rfl ?_
    refine sh_aload (i' := 0) (n := 1) i7_35 (Or.inr ⟨rfl, by decide⟩) rfl ?_
    obtain ⟨h_10, eh_10, hf⟩ := x_bind hf
    refine sh_put i7_36 f7_49 (by decide) rfl eh_10 ?_
    refine sh_aload (i' := 3) (n := 1) i7_39 (Or.inr ⟨rfl, by decide⟩) rfl ?_
    refine ev_do i7_40 rfl ?_
    obtain ⟨h_11, eh_11, hf⟩ := x_bind hf
    refine sh_put i7_41 f7_53 (by decide) rfl eh_11 ?_
    refine sh_aload (i' := 3) (n := 1) i7_44 (Or.inr ⟨rfl, by decide⟩) rfl ?_
    refine ev_do i7_45 rfl ?_
    obtain ⟨h_12, eh_12, hf⟩ := x_bind hf
    refine sh_put i7_46 f7_56 (by decide) rfl eh_12 ?_
    refine sh_aload (i' := 3) (n := 1) i7_49 (Or.inr ⟨rfl, by decide⟩) rfl ?_
    refine ev_do i7_50 rfl ?_
    obtain ⟨h_13, eh_13, hf⟩ := x_bind hf
    refine sh_put i7_51 f7_59 (by decide) rfl eh_13 ?_
    refine sh_aload (i' := 3) (n := 1) i7_54 (Or.inr ⟨rfl, by decide⟩) rfl ?_
    refine sh_aload (i' := 0) (n := 1) i7_55 (Or.inr ⟨rfl, by decide⟩) rfl ?_
    obtain ⟨v_14, ev_14, hf⟩ := x_bind hf
    refine sh_getI i7_56 f7_46 ev_14 ?_
    obtain ⟨h_15, eh_15, hf⟩ := x_bind hf
    refine sh_put i7_59 f7_62 (by decide) rfl eh_15 ?_
    refine sh_aload (i' := 3) (n := 1) i7_62 (Or.inr ⟨rfl, by decide⟩) rfl ?_
    refine ev_do i7_63 rfl ?_
    obtain ⟨h_16, eh_16, hf⟩ := x_bind hf
    refine sh_put i7_64 f7_65 (by decide) rfl eh_16 ?_
    refine sh_aload (i' := 3) (n := 1) i7_67 (Or.inr ⟨rfl, by decide⟩) rfl ?_
    refine ev_do i7_68 rfl ?_
    obtain ⟨h_17, eh_17, hf⟩ := x_bind hf
    refine sh_put i7_69 f7_66 (by decide) rfl eh_17 ?_
    refine sh_aload (i' := 3) (n := 1) i7_72 (Or.inr ⟨rfl, by decide⟩) rfl ?_
    refine ev_do i7_73 rfl ?_
    obtain ⟨h_18, eh_18, hf⟩ := x_bind hf
    refine sh_put i7_74 f7_69 (by decide) rfl eh_18 ?_
    refine sh_aload (i' := 3) (n := 1) i7_77 (Or.inr ⟨rfl, by decide⟩) rfl ?_
    refine ev_do i7_78 rfl ?_
    obtain ⟨h_19, eh_19, hf⟩ := x_bind hf
    refine sh_put i7_79 f7_72 (by decide) rfl eh_19 ?_
    refine sh_aload (i' := 3) (n := 1) i7_82 (Or.inr ⟨rfl, by decide⟩) rfl ?_
    obtain rfl := Option.some.inj hf
    exact sh_aret i7_83 m7 rfl
  · replace hf := x_neg (show ¬ v_1 < v_3 from c_4) hf
    refine sh_cnull i7_12 ?_
    obtain rfl := Option.some.inj hf
    exact sh_aret i7_13 m7 rfl
end
section
def fn8 (o0 : Option Nat) (x1 : Int32) (x2 : Int32) (h : xH) : Option (Option Nat × xH) := (xgI h o0 1 4).bind fun v_1 => (xgR h o0 1 2).bind fun a_2 => (xaN h a_2).bind fun v_3 => (if v_1 < v_3 then (xgR h o0 1 2).bind fun a_5 => (xgI h o0 1 4).bind fun v_6 => (xaR h a_5 v_6).bind fun a_7 => (xgI h o0 1 4).bind fun v_8 => (xpF h o0 1 4 .int (.int (v_8 + 1))).bind fun h_9 => (xpF h_9 a_7 6 0 .int (.int 0)).bind fun h_10 => (xpF h_10 a_7 6 1 .int (.int x1)).bind fun h_11 => (xpF h_11 a_7 6 2 .int (.int x1)).bind fun h_12 => (xpF h_12 a_7 6 3 .int (.int x2)).bind fun h_13 => (xpF h_13 a_7 6 4 .int (.int 0)).bind fun h_14 => (xpF h_14 a_7 6 5 .int (.int 0)).bind fun h_15 => (xpF h_15 a_7 6 6 .boolean (.int 0)).bind fun h_16 => some (a_7, h_16) else some (none, h))
theorem fn8_call {xs : List Int32} {d : Nat} (hd : 2 ≤ d) {o0 : Option Nat} {x1 : Int32} {x2 : Int32} {h : xH} {r : (Option Nat × xH)} (hf : fn8 o0 x1 x2 h = some r) : xCall (xTa xs) d 8 [xrv o0, .int x1, .int x2] h (some (xrv r.1), r.2) := by
  obtain ⟨d, rfl⟩ : ∃ d2, d = d2 + 1 := ⟨d - 1, by omega⟩
  replace hd : 1 ≤ d := by omega
  refine call_of2 (fl := [xrv o0, .int x1, .int x2]) (Ls := [xrv o0, .int x1, .int x2, .float 0]) m8 (by simp [xfl, xrv_cat, xc_i, xc_j, xc_a, xc_f]) (Nat.le_of_ble_eq_true rfl) rfl ?_
  unfold fn8 at hf
  refine sh_aload (i' := 0) (n := 1) i8_0 (Or.inr ⟨rfl, by decide⟩) rfl ?_
  obtain ⟨v_1, ev_1, hf⟩ := x_bind hf
  refine sh_getI i8_1 f8_46 ev_1 ?_
  refine sh_aload (i' := 0) (n := 1) i8_4 (Or.inr ⟨rfl, by decide⟩) rfl ?_
  obtain ⟨a_2, ea_2, hf⟩ := x_bind hf
  refine sh_getR i8_5 f8_29 ea_2 ?_
  obtain ⟨v_3, ev_3, hf⟩ := x_bind hf
  refine sh_len i8_8 ev_3 ?_
  refine ev_icmp (t := 14) i8_9 rfl (fun c_4 => ?_) (fun c_4 => ?_)
  · replace hf := x_pos (show v_1 < v_3 from c_4) hf
    refine sh_aload (i' := 0) (n := 1) i8_14 (Or.inr ⟨rfl, by decide⟩) rfl ?_
    obtain ⟨a_5, ea_5, hf⟩ := x_bind hf
    refine sh_getR i8_15 f8_29 ea_5 ?_
    refine sh_aload (i' := 0) (n := 1) i8_18 (Or.inr ⟨rfl, by decide⟩) rfl ?_
    obtain ⟨v_6, ev_6, hf⟩ := x_bind hf
    refine sh_getI i8_19 f8_46 ev_6 ?_
    obtain ⟨a_7, ea_7, hf⟩ := x_bind hf
    refine sh_aldR i8_22 ea_7 ?_
    refine sh_astore (i' := 3) (n := 1) i8_23 (Or.inr ⟨rfl, by decide⟩) (xokst_of (Nat.le_of_ble_eq_true rfl) rfl) ?_
    refine sh_aload (i' := 0) (n := 1) i8_24 (Or.inr ⟨rfl, by decide⟩) rfl ?_
    refine sh_dup i8_25 (xrv_cat (o0)) ?_
    obtain ⟨v_8, ev_8, hf⟩ := x_bind hf
    refine sh_getI i8_26 f8_46 ev_8 ?_
    refine ev_do i8_29 rfl ?_
    refine ev_do i8_30 rfl ?_
    obtain ⟨h_9, eh_9, hf⟩ := x_bind hf
    refine sh_put i8_31 f8_46 (by decide) rfl eh_9 ?_
    refine sh_aload (i' := 3) (n := 1) i8_34 (Or.inr ⟨rfl, by decide⟩) rfl ?_
    refine ev_do i8_35 rfl ?_
    obtain ⟨h_10, eh_10, hf⟩ := x_bind hf
    refine sh_put i8_36 f8_76 (by decide) rfl eh_10 ?_
    refine sh_aload (i' := 3) (n := 1) i8_39 (Or.inr ⟨rfl, by decide⟩) rfl ?_
    refine ev_do i8_40 rfl ?_
    obtain ⟨h_11, eh_11, hf⟩ := x_bind hf
    refine sh_put i8_41 f8_77 (by decide) rfl eh_11 ?_
    refine sh_aload (i' := 3) (n := 1) i8_44 (Or.inr ⟨rfl, by decide⟩) rfl ?_
    refine ev_do i8_45 rfl ?_
    obtain ⟨h_12, eh_12, hf⟩ := x_bind hf
    refine sh_put i8_46 f8_78 (by decide) rfl eh_12 ?_
    refine sh_aload (i' := 3) (n := 1) i8_49 (Or.inr ⟨rfl, by decide⟩) rfl ?_
    refine ev_do i8_50 rfl ?_
    obtain ⟨h_13, eh_13, hf⟩ := x_bind hf
    refine sh_put i8_51 f8_81 (by decide) rfl eh_13 ?_
    refine sh_aload (i' := 3) (n := 1) i8_54 (Or.inr ⟨rfl, by decide⟩) rfl ?_
    refine ev_do i8_55 rfl ?_
    obtain ⟨h_14, eh_14, hf⟩ := x_bind hf
    refine sh_put i8_56 f8_84 (by decide) rfl eh_14 ?_
    refine sh_aload (i' := 3) (n := 1) i8_59 (Or.inr ⟨rfl, by decide⟩) rfl ?_
    refine ev_do i8_60 rfl ?_
    obtain ⟨h_15, eh_15, hf⟩ := x_bind hf
    refine sh_put i8_61 f8_85 (by decide) rfl eh_15 ?_
    refine sh_aload (i' := 3) (n := 1) i8_64 (Or.inr ⟨rfl, by decide⟩) rfl ?_
    refine ev_do i8_65 rfl ?_
    obtain ⟨h_16, eh_16, hf⟩ := x_bind hf
    refine sh_put i8_66 f8_86 (by decide) rfl eh_16 ?_
    refine sh_aload (i' := 3) (n := 1) i8_69 (Or.inr ⟨rfl, by decide⟩) rfl ?_
    obtain rfl := Option.some.inj hf
    exact sh_aret i8_70 m8 rfl
  · replace hf := x_neg (show ¬ v_1 < v_3 from c_4) hf
    refine sh_cnull i8_12 ?_
    obtain rfl := Option.some.inj hf
    exact sh_aret i8_13 m8 rfl
end
section
def l9_2  : Nat → Option Nat → Int32 → Int32 → xH → Option (Option Nat × xH)
  | 0 => fun _ _ _ _ => none
  | n + 1 => fun o0 x1 x2 h => (xgI h o0 1 3).bind fun v_1 => (if v_1 ≤ x2 then some (none, h) else (xgR h o0 1 1).bind fun a_3 => (xaR h a_3 x2).bind fun a_4 => (xgI h a_4 0 1).bind fun v_5 => (if v_5 = x1 then (xgR h o0 1 1).bind fun a_7 => (xaR h a_7 x2).bind fun a_8 => some (a_8, h) else l9_2 n o0 x1 (x2 + 1) h))
theorem l9_2_ok {xs : List Int32} {d : Nat} (hd : 1 ≤ d) : ∀ (n : Nat) {o0 : Option Nat} {x1 : Int32} {x2 : Int32} {h : xH} {r : (Option Nat × xH)}, l9_2 n o0 x1 x2 h = some r → xEv (xTa xs) d 9 (2, [xrv o0, .int x1, .int x2], [], h) (some (xrv r.1), r.2) := by
  intro n
  induction n with
  | zero => intros; rename_i hf; cases hf
  | succ n ih =>
    intro o0 x1 x2 h r hf
    replace hf : ((xgI h o0 1 3).bind fun v_1 => (if v_1 ≤ x2 then some (none, h) else (xgR h o0 1 1).bind fun a_3 => (xaR h a_3 x2).bind fun a_4 => (xgI h a_4 0 1).bind fun v_5 => (if v_5 = x1 then (xgR h o0 1 1).bind fun a_7 => (xaR h a_7 x2).bind fun a_8 => some (a_8, h) else l9_2 n o0 x1 (x2 + 1) h))) = some r := hf
    refine ev_do i9_2 rfl ?_
    refine sh_aload (i' := 0) (n := 1) i9_3 (Or.inr ⟨rfl, by decide⟩) rfl ?_
    obtain ⟨v_1, ev_1, hf⟩ := x_bind hf
    refine sh_getI i9_4 f9_42 ev_1 ?_
    refine ev_icmp (t := 36) i9_7 rfl (fun c_2 => ?_) (fun c_2 => ?_)
    · replace hf := x_pos (show v_1 ≤ x2 from c_2) hf
      refine sh_cnull i9_36 ?_
      obtain rfl := Option.some.inj hf
      exact sh_aret i9_37 m9 rfl
    · replace hf := x_neg (show ¬ v_1 ≤ x2 from c_2) hf
      refine sh_aload (i' := 0) (n := 1) i9_10 (Or.inr ⟨rfl, by decide⟩) rfl ?_
      obtain ⟨a_3, ea_3, hf⟩ := x_bind hf
      refine sh_getR i9_11 f9_22 ea_3 ?_
      refine ev_do i9_14 rfl ?_
      obtain ⟨a_4, ea_4, hf⟩ := x_bind hf
      refine sh_aldR i9_15 ea_4 ?_
      obtain ⟨v_5, ev_5, hf⟩ := x_bind hf
      refine sh_getI i9_16 f9_53 ev_5 ?_
      refine ev_do i9_19 rfl ?_
      refine ev_icmp (t := 30) i9_20 rfl (fun c_6 => ?_) (fun c_6 => ?_)
      · replace hf := x_neg (show ¬ v_5 = x1 from c_6) hf
        refine sh_inc (i' := 2) i9_30 rfl (xokst_of (Nat.le_of_ble_eq_true rfl) rfl) rfl ?_
        refine sh_goto (t := 2) i9_33 rfl ?_
        exact ih hf
      · replace hf := x_pos (show v_5 = x1 from Decidable.byContradiction (fun h9 => c_6 h9)) hf
        refine sh_aload (i' := 0) (n := 1) i9_23 (Or.inr ⟨rfl, by decide⟩) rfl ?_
        obtain ⟨a_7, ea_7, hf⟩ := x_bind hf
        refine sh_getR i9_24 f9_22 ea_7 ?_
        refine ev_do i9_27 rfl ?_
        obtain ⟨a_8, ea_8, hf⟩ := x_bind hf
        refine sh_aldR i9_28 ea_8 ?_
        obtain rfl := Option.some.inj hf
        exact sh_aret i9_29 m9 rfl
def fn9 (o0 : Option Nat) (x1 : Int32) (h : xH) : Option (Option Nat × xH) := l9_2 xFuel o0 x1 0 h
theorem fn9_call {xs : List Int32} {d : Nat} (hd : 2 ≤ d) {o0 : Option Nat} {x1 : Int32} {h : xH} {r : (Option Nat × xH)} (hf : fn9 o0 x1 h = some r) : xCall (xTa xs) d 9 [xrv o0, .int x1] h (some (xrv r.1), r.2) := by
  obtain ⟨d, rfl⟩ : ∃ d2, d = d2 + 1 := ⟨d - 1, by omega⟩
  replace hd : 1 ≤ d := by omega
  refine call_of2 (fl := [xrv o0, .int x1]) (Ls := [xrv o0, .int x1, .float 0]) m9 (by simp [xfl, xrv_cat, xc_i, xc_j, xc_a, xc_f]) (Nat.le_of_ble_eq_true rfl) rfl ?_
  unfold fn9 at hf
  refine ev_do i9_0 rfl ?_
  refine sh_istore (i' := 2) (n := 1) i9_1 (Or.inr ⟨rfl, by decide⟩) (xokst_of (Nat.le_of_ble_eq_true rfl) rfl) ?_
  exact l9_2_ok hd xFuel hf
end
section
def l103_27  : Nat → Option Nat → Option Nat → Int32 → Int32 → Int32 → xH → Option (Int32 × xH)
  | 0 => fun _ _ _ _ _ _ => none
  | n + 1 => fun o0 o1 x2 x3 x4 h => (xgI h o0 9 1).bind fun v_1 => (if v_1 ≤ x4 then some (1, h) else (xgR h o0 9 0).bind fun a_3 => (xaI h 12 a_3 x4).bind fun v_4 => (xgR h o1 9 0).bind fun a_5 => (xaI h 12 a_5 (x2 + x4)).bind fun v_6 => (if v_4 = v_6 then l103_27 n o0 o1 x2 x3 (x4 + 1) h else some (0, h)))
theorem l103_27_ok {xs : List Int32} {d : Nat} (hd : 1 ≤ d) : ∀ (n : Nat) {o0 : Option Nat} {o1 : Option Nat} {x2 : Int32} {x3 : Int32} {x4 : Int32} {h : xH} {r : (Int32 × xH)}, l103_27 n o0 o1 x2 x3 x4 h = some r → xEv (xTa xs) d 103 (27, [xrv o0, xrv o1, .int x2, .int x3, .int x4], [], h) (some (.int r.1), r.2) := by
  intro n
  induction n with
  | zero => intros; rename_i hf; cases hf
  | succ n ih =>
    intro o0 o1 x2 x3 x4 h r hf
    replace hf : ((xgI h o0 9 1).bind fun v_1 => (if v_1 ≤ x4 then some (1, h) else (xgR h o0 9 0).bind fun a_3 => (xaI h 12 a_3 x4).bind fun v_4 => (xgR h o1 9 0).bind fun a_5 => (xaI h 12 a_5 (x2 + x4)).bind fun v_6 => (if v_4 = v_6 then l103_27 n o0 o1 x2 x3 (x4 + 1) h else some (0, h)))) = some r := hf
    refine ev_do i103_27 rfl ?_
    refine sh_aload (i' := 0) (n := 1) i103_29 (Or.inr ⟨rfl, by decide⟩) rfl ?_
    obtain ⟨v_1, ev_1, hf⟩ := x_bind hf
    refine sh_getI i103_30 f103_21 ev_1 ?_
    refine ev_icmp (t := 63) i103_33 rfl (fun c_2 => ?_) (fun c_2 => ?_)
    · replace hf := x_pos (show v_1 ≤ x4 from c_2) hf
      refine ev_do i103_63 rfl ?_
      obtain rfl := Option.some.inj hf
      exact sh_iret i103_64 m103 rfl (by decide)
    · replace hf := x_neg (show ¬ v_1 ≤ x4 from c_2) hf
      refine sh_aload (i' := 0) (n := 1) i103_36 (Or.inr ⟨rfl, by decide⟩) rfl ?_
      obtain ⟨a_3, ea_3, hf⟩ := x_bind hf
      refine sh_getR i103_37 f103_15 ea_3 ?_
      refine ev_do i103_40 rfl ?_
      obtain ⟨v_4, ev_4, hf⟩ := x_bind hf
      refine sh_aldI (tg := 12) i103_42 (Or.inr (Or.inl ⟨rfl, rfl⟩)) ev_4 ?_
      refine sh_aload (i' := 1) (n := 1) i103_43 (Or.inr ⟨rfl, by decide⟩) rfl ?_
      obtain ⟨a_5, ea_5, hf⟩ := x_bind hf
      refine sh_getR i103_44 f103_15 ea_5 ?_
      refine ev_do i103_47 rfl ?_
      refine ev_do i103_48 rfl ?_
      refine ev_do i103_50 rfl ?_
      obtain ⟨v_6, ev_6, hf⟩ := x_bind hf
      refine sh_aldI (tg := 12) i103_51 (Or.inr (Or.inl ⟨rfl, rfl⟩)) ev_6 ?_
      refine ev_icmp (t := 57) i103_52 rfl (fun c_7 => ?_) (fun c_7 => ?_)
      · replace hf := x_pos (show v_4 = v_6 from c_7) hf
        refine sh_inc (i' := 4) i103_57 rfl (xokst_of (Nat.le_of_ble_eq_true rfl) rfl) rfl ?_
        refine sh_goto (t := 27) i103_60 rfl ?_
        exact ih hf
      · replace hf := x_neg (show ¬ v_4 = v_6 from c_7) hf
        refine ev_do i103_55 rfl ?_
        obtain rfl := Option.some.inj hf
        exact sh_iret i103_56 m103 rfl (by decide)
def j103_22  (o0 : Option Nat) (o1 : Option Nat) (x2 : Int32) (x3 : Int32) (h : xH) : Option (Int32 × xH) := some (0, h)
theorem j103_22_ok {xs : List Int32} {d : Nat} (hd : 1 ≤ d) {u4 : Value} {o0 : Option Nat} {o1 : Option Nat} {x2 : Int32} {x3 : Int32} {h : xH} {r : (Int32 × xH)} (hu4 : u4.category = 1) (hf : j103_22 o0 o1 x2 x3 h = some r) : xEv (xTa xs) d 103 (22, [xrv o0, xrv o1, .int x2, .int x3, u4], [], h) (some (.int r.1), r.2) := by
  unfold j103_22 at hf
  refine ev_do i103_22 rfl ?_
  obtain rfl := Option.some.inj hf
  exact sh_iret i103_23 m103 rfl (by decide)
def fn103 (o0 : Option Nat) (o1 : Option Nat) (x2 : Int32) (x3 : Int32) (h : xH) : Option (Int32 × xH) := (if x2 < 0 then j103_22 o0 o1 x2 x3 h else (xgI h o1 9 1).bind fun v_2 => (if v_2 < x3 then j103_22 o0 o1 x2 x3 h else (xgI h o0 9 1).bind fun v_4 => (if (x3 - x2) = v_4 then l103_27 xFuel o0 o1 x2 x3 0 h else j103_22 o0 o1 x2 x3 h)))
theorem fn103_call {xs : List Int32} {d : Nat} (hd : 2 ≤ d) {o0 : Option Nat} {o1 : Option Nat} {x2 : Int32} {x3 : Int32} {h : xH} {r : (Int32 × xH)} (hf : fn103 o0 o1 x2 x3 h = some r) : xCall (xTa xs) d 103 [xrv o0, xrv o1, .int x2, .int x3] h (some (.int r.1), r.2) := by
  obtain ⟨d, rfl⟩ : ∃ d2, d = d2 + 1 := ⟨d - 1, by omega⟩
  replace hd : 1 ≤ d := by omega
  refine call_of2 (fl := [xrv o0, xrv o1, .int x2, .int x3]) (Ls := [xrv o0, xrv o1, .int x2, .int x3, .float 0]) m103 (by simp [xfl, xrv_cat, xc_i, xc_j, xc_a, xc_f]) (Nat.le_of_ble_eq_true rfl) rfl ?_
  unfold fn103 at hf
  refine ev_do i103_0 rfl ?_
  refine ev_if (t := 22) i103_1 rfl (fun c_1 => ?_) (fun c_1 => ?_)
  · replace hf := x_pos (show x2 < 0 from c_1) hf
    exact j103_22_ok hd rfl hf
  · replace hf := x_neg (show ¬ x2 < 0 from c_1) hf
    refine ev_do i103_4 rfl ?_
    refine sh_aload (i' := 1) (n := 1) i103_5 (Or.inr ⟨rfl, by decide⟩) rfl ?_
    obtain ⟨v_2, ev_2, hf⟩ := x_bind hf
    refine sh_getI i103_6 f103_21 ev_2 ?_
    refine ev_icmp (t := 22) i103_9 rfl (fun c_3 => ?_) (fun c_3 => ?_)
    · replace hf := x_pos (show v_2 < x3 from c_3) hf
      exact j103_22_ok hd rfl hf
    · replace hf := x_neg (show ¬ v_2 < x3 from c_3) hf
      refine ev_do i103_12 rfl ?_
      refine ev_do i103_13 rfl ?_
      refine ev_do i103_14 rfl ?_
      refine sh_aload (i' := 0) (n := 1) i103_15 (Or.inr ⟨rfl, by decide⟩) rfl ?_
      obtain ⟨v_4, ev_4, hf⟩ := x_bind hf
      refine sh_getI i103_16 f103_21 ev_4 ?_
      refine ev_icmp (t := 24) i103_19 rfl (fun c_5 => ?_) (fun c_5 => ?_)
      · replace hf := x_pos (show (x3 - x2) = v_4 from c_5) hf
        refine ev_do i103_24 rfl ?_
        refine sh_istore (i' := 4) (n := 2) i103_25 (Or.inl rfl) (xokst_of (Nat.le_of_ble_eq_true rfl) rfl) ?_
        exact l103_27_ok hd xFuel hf
      · replace hf := x_neg (show ¬ (x3 - x2) = v_4 from c_5) hf
        exact j103_22_ok hd rfl hf
end
section
def j10_46 (k2 : Option Nat → Option Nat → Int32 → xH → Option (Int32 × xH)) (o0 : Option Nat) (o1 : Option Nat) (x2 : Int32) (o3 : Option Nat) (h : xH) : Option (Int32 × xH) := k2 o0 o1 (x2 + 1) h
theorem j10_46_ok {xs : List Int32} {d : Nat} (hd : 2 ≤ d) {k2 : Option Nat → Option Nat → Int32 → xH → Option (Int32 × xH)} (hk2 : ∀ {u3 : Value} {o0 : Option Nat} {o1 : Option Nat} {x2 : Int32} {h : xH} {r : (Int32 × xH)}, u3.category = 1 → k2 o0 o1 x2 h = some r → xEv (xTa xs) d 10 (2, [xrv o0, xrv o1, .int x2, u3], [], h) (some (.int r.1), r.2)) {o0 : Option Nat} {o1 : Option Nat} {x2 : Int32} {o3 : Option Nat} {h : xH} {r : (Int32 × xH)} (hf : j10_46 k2 o0 o1 x2 o3 h = some r) : xEv (xTa xs) d 10 (46, [xrv o0, xrv o1, .int x2, xrv o3], [], h) (some (.int r.1), r.2) := by
  unfold j10_46 at hf
  refine sh_inc (i' := 2) i10_46 rfl (xokst_of (Nat.le_of_ble_eq_true rfl) (xrv_cat (o1))) rfl ?_
  refine sh_goto (t := 2) i10_49 rfl ?_
  exact hk2 (xrv_cat (o3)) hf
def l10_2  : Nat → Option Nat → Option Nat → Int32 → xH → Option (Int32 × xH)
  | 0 => fun _ _ _ _ => none
  | n + 1 => fun o0 o1 x2 h => (xgI h o0 1 3).bind fun v_1 => (if v_1 ≤ x2 then some (0, h) else (xgR h o0 1 1).bind fun a_3 => (xaR h a_3 x2).bind fun a_4 => (xgI h a_4 0 1).bind fun v_5 => (if v_5 = 2 then (xgR h o0 1 0).bind fun a_7 => (xgI h a_4 0 6).bind fun v_8 => (xgI h a_4 0 7).bind fun v_9 => (xcv h o1 9).bind fun _ => (fn103 o1 a_7 v_8 v_9 h).bind fun r_10 => (if r_10.1 = 0 then j10_46 (l10_2 n) o0 o1 x2 a_4 r_10.2 else some (1, r_10.2)) else j10_46 (l10_2 n) o0 o1 x2 a_4 h))
theorem l10_2_ok {xs : List Int32} {d : Nat} (hd : 2 ≤ d) : ∀ (n : Nat) {u3 : Value} {o0 : Option Nat} {o1 : Option Nat} {x2 : Int32} {h : xH} {r : (Int32 × xH)} (hu3 : u3.category = 1), l10_2 n o0 o1 x2 h = some r → xEv (xTa xs) d 10 (2, [xrv o0, xrv o1, .int x2, u3], [], h) (some (.int r.1), r.2) := by
  intro n
  induction n with
  | zero => intros; rename_i hf; cases hf
  | succ n ih =>
    intro u3 o0 o1 x2 h r hu3 hf
    replace hf : ((xgI h o0 1 3).bind fun v_1 => (if v_1 ≤ x2 then some (0, h) else (xgR h o0 1 1).bind fun a_3 => (xaR h a_3 x2).bind fun a_4 => (xgI h a_4 0 1).bind fun v_5 => (if v_5 = 2 then (xgR h o0 1 0).bind fun a_7 => (xgI h a_4 0 6).bind fun v_8 => (xgI h a_4 0 7).bind fun v_9 => (xcv h o1 9).bind fun _ => (fn103 o1 a_7 v_8 v_9 h).bind fun r_10 => (if r_10.1 = 0 then j10_46 (l10_2 n) o0 o1 x2 a_4 r_10.2 else some (1, r_10.2)) else j10_46 (l10_2 n) o0 o1 x2 a_4 h))) = some r := hf
    refine ev_do i10_2 rfl ?_
    refine sh_aload (i' := 0) (n := 1) i10_3 (Or.inr ⟨rfl, by decide⟩) rfl ?_
    obtain ⟨v_1, ev_1, hf⟩ := x_bind hf
    refine sh_getI i10_4 f10_42 ev_1 ?_
    refine ev_icmp (t := 52) i10_7 rfl (fun c_2 => ?_) (fun c_2 => ?_)
    · replace hf := x_pos (show v_1 ≤ x2 from c_2) hf
      refine ev_do i10_52 rfl ?_
      obtain rfl := Option.some.inj hf
      exact sh_iret i10_53 m10 rfl (by decide)
    · replace hf := x_neg (show ¬ v_1 ≤ x2 from c_2) hf
      refine sh_aload (i' := 0) (n := 1) i10_10 (Or.inr ⟨rfl, by decide⟩) rfl ?_
      obtain ⟨a_3, ea_3, hf⟩ := x_bind hf
      refine sh_getR i10_11 f10_22 ea_3 ?_
      refine ev_do i10_14 rfl ?_
      obtain ⟨a_4, ea_4, hf⟩ := x_bind hf
      refine sh_aldR i10_15 ea_4 ?_
      refine sh_astore (i' := 3) (n := 1) i10_16 (Or.inr ⟨rfl, by decide⟩) (xokst_of (Nat.le_of_ble_eq_true rfl) rfl) ?_
      refine sh_aload (i' := 3) (n := 1) i10_17 (Or.inr ⟨rfl, by decide⟩) rfl ?_
      obtain ⟨v_5, ev_5, hf⟩ := x_bind hf
      refine sh_getI i10_18 f10_53 ev_5 ?_
      refine ev_do i10_21 rfl ?_
      refine ev_icmp (t := 46) i10_22 rfl (fun c_6 => ?_) (fun c_6 => ?_)
      · replace hf := x_neg (show ¬ v_5 = 2 from c_6) hf
        exact j10_46_ok hd ih hf
      · replace hf := x_pos (show v_5 = 2 from Decidable.byContradiction (fun h9 => c_6 h9)) hf
        refine sh_aload (i' := 1) (n := 1) i10_25 (Or.inr ⟨rfl, by decide⟩) rfl ?_
        refine sh_aload (i' := 0) (n := 1) i10_26 (Or.inr ⟨rfl, by decide⟩) rfl ?_
        obtain ⟨a_7, ea_7, hf⟩ := x_bind hf
        refine sh_getR i10_27 f10_14 ea_7 ?_
        refine sh_aload (i' := 3) (n := 1) i10_30 (Or.inr ⟨rfl, by decide⟩) rfl ?_
        obtain ⟨v_8, ev_8, hf⟩ := x_bind hf
        refine sh_getI i10_31 f10_66 ev_8 ?_
        refine sh_aload (i' := 3) (n := 1) i10_34 (Or.inr ⟨rfl, by decide⟩) rfl ?_
        obtain ⟨v_9, ev_9, hf⟩ := x_bind hf
        refine sh_getI i10_35 f10_69 ev_9 ?_
        obtain ⟨_, eu_12, hf⟩ := x_bind hf
        obtain ⟨r_10, er_10, hf⟩ := x_bind hf
        refine sh_inv (as := [.int v_9, .int v_8, xrv a_7]) (z := (some (.int r_10.1), r_10.2)) i10_38 v10_89 (Or.inl ⟨by decide, rfl⟩) m103 rfl (Nat.le_of_ble_eq_true rfl) eu_12 (fn103_call (by omega) er_10) ?_
        refine ev_if (t := 46) i10_41 rfl (fun c_11 => ?_) (fun c_11 => ?_)
        · replace hf := x_pos (show r_10.1 = 0 from c_11) hf
          exact j10_46_ok hd ih hf
        · replace hf := x_neg (show ¬ r_10.1 = 0 from c_11) hf
          refine ev_do i10_44 rfl ?_
          obtain rfl := Option.some.inj hf
          exact sh_iret i10_45 m10 rfl (by decide)
def fn10 (o0 : Option Nat) (o1 : Option Nat) (h : xH) : Option (Int32 × xH) := l10_2 xFuel o0 o1 0 h
theorem fn10_call {xs : List Int32} {d : Nat} (hd : 3 ≤ d) {o0 : Option Nat} {o1 : Option Nat} {h : xH} {r : (Int32 × xH)} (hf : fn10 o0 o1 h = some r) : xCall (xTa xs) d 10 [xrv o0, xrv o1] h (some (.int r.1), r.2) := by
  obtain ⟨d, rfl⟩ : ∃ d2, d = d2 + 1 := ⟨d - 1, by omega⟩
  replace hd : 2 ≤ d := by omega
  refine call_of2 (fl := [xrv o0, xrv o1]) (Ls := [xrv o0, xrv o1, .float 0, .float 0]) m10 (by simp [xfl, xrv_cat, xc_i, xc_j, xc_a, xc_f]) (Nat.le_of_ble_eq_true rfl) rfl ?_
  unfold fn10 at hf
  refine ev_do i10_0 rfl ?_
  refine sh_istore (i' := 2) (n := 1) i10_1 (Or.inr ⟨rfl, by decide⟩) (xokst_of (Nat.le_of_ble_eq_true rfl) (xrv_cat (o1))) ?_
  exact l10_2_ok hd xFuel rfl hf
end
section
def fn11 (o0 : Option Nat) (x1 : Int32) (o2 : Option Nat) (o3 : Option Nat) (x4 : Int32) (h : xH) : Option xH := (o0).bind fun a_1 => (xpF h o0 2 0 .int (.int x1)).bind fun h_2 => (xpF h_2 o0 2 2 (.object "DocFormat$Entry") (xrv o2)).bind fun h_3 => (xpF h_3 o0 2 3 (.object "DocFormat$Entry") (xrv o3)).bind fun h_4 => (xpF h_4 o0 2 4 .boolean (.int x4)).bind fun h_5 => (some (xnew h_5 (9, [.null, .int 0]))).bind fun h_6 => (xcv h_6 (some h_5.1) 9).bind fun _ => (fn95 (some h_5.1) 10 h_6).bind fun h_7 => (xpF h_7 o0 2 1 (.object "DocFormat$Text") (xrv (some h_5.1))).bind fun h_8 => (xnA h_8 18 .null 4).bind fun h_9 => (xpF h_9 o0 2 5 (.array (.object "DocFormat$Text")) (xrv (some h_8.1))).bind fun h_10 => some h_10
theorem fn11_call {xs : List Int32} {d : Nat} (hd : 3 ≤ d) {o0 : Option Nat} {x1 : Int32} {o2 : Option Nat} {o3 : Option Nat} {x4 : Int32} {h : xH} {r : xH} (hf : fn11 o0 x1 o2 o3 x4 h = some r) : xCall (xTa xs) d 11 [xrv o0, .int x1, xrv o2, xrv o3, .int x4] h (none, r) := by
  obtain ⟨d, rfl⟩ : ∃ d2, d = d2 + 1 := ⟨d - 1, by omega⟩
  replace hd : 2 ≤ d := by omega
  refine call_of2 (fl := [xrv o0, .int x1, xrv o2, xrv o3, .int x4]) (Ls := [xrv o0, .int x1, xrv o2, xrv o3, .int x4]) m11 (by simp [xfl, xrv_cat, xc_i, xc_j, xc_a, xc_f]) (Nat.le_of_ble_eq_true rfl) rfl ?_
  unfold fn11 at hf
  refine sh_aload (i' := 0) (n := 1) i11_0 (Or.inr ⟨rfl, by decide⟩) rfl ?_
  obtain ⟨a_1, ea_1, hf⟩ := x_bind hf
  refine sh_obj i11_1 v11_3 (Nat.le_of_ble_eq_true rfl) ea_1 ?_
  refine sh_aload (i' := 0) (n := 1) i11_4 (Or.inr ⟨rfl, by decide⟩) rfl ?_
  refine ev_do i11_5 rfl ?_
  obtain ⟨h_2, eh_2, hf⟩ := x_bind hf
  refine sh_put i11_6 f11_9 (by decide) rfl eh_2 ?_
  refine sh_aload (i' := 0) (n := 1) i11_9 (Or.inr ⟨rfl, by decide⟩) rfl ?_
  refine sh_aload (i' := 2) (n := 1) i11_10 (Or.inr ⟨rfl, by decide⟩) rfl ?_
  obtain ⟨h_3, eh_3, hf⟩ := x_bind hf
  refine sh_put i11_11 f11_15 (by decide) rfl eh_3 ?_
  refine sh_aload (i' := 0) (n := 1) i11_14 (Or.inr ⟨rfl, by decide⟩) rfl ?_
  refine sh_aload (i' := 3) (n := 1) i11_15 (Or.inr ⟨rfl, by decide⟩) rfl ?_
  obtain ⟨h_4, eh_4, hf⟩ := x_bind hf
  refine sh_put i11_16 f11_19 (by decide) rfl eh_4 ?_
  refine sh_aload (i' := 0) (n := 1) i11_19 (Or.inr ⟨rfl, by decide⟩) rfl ?_
  refine ev_do i11_20 rfl ?_
  obtain ⟨h_5, eh_5, hf⟩ := x_bind hf
  refine sh_put i11_22 f11_22 (by decide) rfl eh_5 ?_
  refine sh_aload (i' := 0) (n := 1) i11_25 (Or.inr ⟨rfl, by decide⟩) rfl ?_
  obtain ⟨h_6, eh_6, hf⟩ := x_bind hf
  refine sh_new (fs := [.null, .int 0]) i11_26 c11_26 (by decide) rfl ?_
  rw [Option.some.inj eh_6]
  refine sh_dup i11_29 (xrv_cat (some h_5.1)) ?_
  refine ev_do i11_30 rfl ?_
  obtain ⟨_, eu_11, hf⟩ := x_bind hf
  obtain ⟨h_7, eh_7, hf⟩ := x_bind hf
  refine sh_inv (as := [.int 10]) (z := (none, h_7)) i11_32 v11_28 (Or.inr ⟨by decide, rfl⟩) m95 rfl (by simp [xcat, xrv_cat, xc_i, xc_j, xc_a, xc_f]) eu_11 (fn95_call (by omega) eh_7) ?_
  obtain ⟨h_8, eh_8, hf⟩ := x_bind hf
  refine sh_put i11_35 f11_31 (by decide) rfl eh_8 ?_
  refine sh_aload (i' := 0) (n := 1) i11_38 (Or.inr ⟨rfl, by decide⟩) rfl ?_
  refine ev_do i11_39 rfl ?_
  obtain ⟨h_9, eh_9, hf⟩ := x_bind hf
  refine sh_newa (tg := 18) (n := 3) (v := .null) i11_40 (fun _ _ _ => by show (match xtA (xTa xs) 11 26 with | some tg => if 15 ≤ tg ∧ tg < 19 then xmka tg 3 .null _ _ _ _ else none | none => none) = _; rw [a11_26]; rfl) eh_9 ?_
  obtain ⟨h_10, eh_10, hf⟩ := x_bind hf
  refine sh_put i11_43 f11_35 (by decide) rfl eh_10 ?_
  obtain rfl := Option.some.inj hf
  exact sh_vret i11_46 m11 rfl
end
