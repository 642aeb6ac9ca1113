section
def j36_27  (o0 : Option Nat) (x1 : Int32) (x2 : Int32) (s0 : Int32) (h : xH) : Option (Int32 × xH) := some (s0 * s0, h)
theorem j36_27_ok {xs : List Int32} {d : Nat} (hd : 3 ≤ d) {u3 : Value} {o0 : Option Nat} {x1 : Int32} {x2 : Int32} {s0 : Int32} {h : xH} {r : (Int32 × xH)} (hu3 : u3.category = 1) (hf : j36_27 o0 x1 x2 s0 h = some r) : xEv (xTa xs) d 36 (27, [xrv o0, .int x1, .int x2, u3], [.int s0], h) (some (.int r.1), r.2) := by
  unfold j36_27 at hf
  refine sh_istore (i' := 3) (n := 1) i36_27 (Or.inr ⟨rfl, by decide⟩) (xokst_of (Nat.le_of_ble_eq_true rfl) rfl) ?_
  refine ev_do i36_28 rfl ?_
  refine ev_do i36_29 rfl ?_
  refine ev_do i36_30 rfl ?_
  obtain rfl := Option.some.inj hf
  exact sh_iret i36_31 m36 rfl rfl
def fn36 (o0 : Option Nat) (x1 : Int32) (x2 : Int32) (h : xH) : Option (Int32 × xH) := (xgI h o0 3 4).bind fun v_1 => (if v_1 ≤ x2 then j36_27 o0 x1 x2 0 h else (xgI h o0 3 7).bind fun v_3 => (xcv h o0 3).bind fun _ => (fn33 o0 x1 x2 h).bind fun r_4 => j36_27 o0 x1 x2 (xmax 0 (v_3 - r_4.1)) r_4.2)
theorem fn36_call {xs : List Int32} {d : Nat} (hd : 4 ≤ d) {o0 : Option Nat} {x1 : Int32} {x2 : Int32} {h : xH} {r : (Int32 × xH)} (hf : fn36 o0 x1 x2 h = some r) : xCall (xTa xs) d 36 [xrv o0, .int x1, .int x2] h (some (.int r.1), r.2) := by
  obtain ⟨d, rfl⟩ : ∃ d2, d = d2 + 1 := ⟨d - 1, by omega⟩
  replace hd : 3 ≤ d := by omega
  refine call_of2 (fl := [xrv o0, .int x1, .int x2]) (Ls := [xrv o0, .int x1, .int x2, .float 0]) m36 (by simp [xfl, xrv_cat, xc_i, xc_j, xc_a, xc_f]) (Nat.le_of_ble_eq_true rfl) rfl ?_
  unfold fn36 at hf
  refine ev_do i36_0 rfl ?_
  refine sh_aload (i' := 0) (n := 1) i36_1 (Or.inr ⟨rfl, by decide⟩) rfl ?_
  obtain ⟨v_1, ev_1, hf⟩ := x_bind hf
  refine sh_getI i36_2 f36_166 ev_1 ?_
  refine ev_icmp (t := 26) i36_5 rfl (fun c_2 => ?_) (fun c_2 => ?_)
  · replace hf := x_pos (show v_1 ≤ x2 from c_2) hf
    refine ev_do i36_26 rfl ?_
    exact j36_27_ok hd rfl hf
  · replace hf := x_neg (show ¬ v_1 ≤ x2 from c_2) hf
    refine ev_do i36_8 rfl ?_
    refine sh_aload (i' := 0) (n := 1) i36_9 (Or.inr ⟨rfl, by decide⟩) rfl ?_
    obtain ⟨v_3, ev_3, hf⟩ := x_bind hf
    refine sh_getI i36_10 f36_83 ev_3 ?_
    refine sh_aload (i' := 0) (n := 1) i36_13 (Or.inr ⟨rfl, by decide⟩) rfl ?_
    refine ev_do i36_14 rfl ?_
    refine ev_do i36_15 rfl ?_
    obtain ⟨_, eu_5, hf⟩ := x_bind hf
    obtain ⟨r_4, er_4, hf⟩ := x_bind hf
    refine sh_inv (as := [.int x2, .int x1]) (z := (some (.int r_4.1), r_4.2)) i36_16 v36_241 (Or.inl ⟨by decide, rfl⟩) m33 rfl (Nat.le_of_ble_eq_true rfl) eu_5 (fn33_call (by omega) er_4) ?_
    refine ev_do i36_19 rfl ?_
    refine sh_max i36_20 v36_245 (Nat.le_of_ble_eq_true rfl) ?_
    refine sh_goto (t := 27) i36_23 rfl ?_
    exact j36_27_ok hd rfl hf
end
section
def j38_103 (k17 : Option Nat → Int32 → xH → Option xH) (k57 : Option Nat → Int32 → Int32 → Int32 → xH → Option xH) (o0 : Option Nat) (x1 : Int32) (x2 : Int32) (x3 : Int32) (x4 : Int32) (h : xH) : Option xH := k57 o0 x1 x2 (x3 + (-1)) h
theorem j38_103_ok {xs : List Int32} {d : Nat} (hd : 4 ≤ d) {k17 : Option Nat → Int32 → xH → Option xH} {k57 : Option Nat → Int32 → Int32 → Int32 → xH → Option xH} (hk17 : ∀ {u2 : Value} {u3 : Value} {u4 : Value} {o0 : Option Nat} {x1 : Int32} {h : xH} {r : xH}, u2.category = 1 → u3.category = 1 → u4.category = 1 → k17 o0 x1 h = some r → xEv (xTa xs) d 38 (17, [xrv o0, .int x1, u2, u3, u4], [], h) (none, r)) (hk57 : ∀ {u4 : Value} {o0 : Option Nat} {x1 : Int32} {x2 : Int32} {x3 : Int32} {h : xH} {r : xH}, u4.category = 1 → k57 o0 x1 x2 x3 h = some r → xEv (xTa xs) d 38 (57, [xrv o0, .int x1, .int x2, .int x3, u4], [], h) (none, r)) {o0 : Option Nat} {x1 : Int32} {x2 : Int32} {x3 : Int32} {x4 : Int32} {h : xH} {r : xH} (hf : j38_103 k17 k57 o0 x1 x2 x3 x4 h = some r) : xEv (xTa xs) d 38 (103, [xrv o0, .int x1, .int x2, .int x3, .int x4], [], h) (none, r) := by
  unfold j38_103 at hf
  refine sh_inc (i' := 3) i38_103 rfl (xokst_of (Nat.le_of_ble_eq_true rfl) rfl) rfl ?_
  refine sh_goto (t := 57) i38_106 rfl ?_
  exact hk57 rfl hf
def l38_57 (k17 : Option Nat → Int32 → xH → Option xH) : Nat → Option Nat → Int32 → Int32 → Int32 → xH → Option xH
  | 0 => fun _ _ _ _ _ => none
  | n + 1 => fun o0 x1 x2 x3 h => (if x3 ≤ x1 then k17 o0 (x1 + (-1)) h else (xcv h o0 3).bind fun _ => (fn36 o0 x1 x3 h).bind fun r_2 => (xgR r_2.2 o0 3 6).bind fun a_3 => (xaI r_2.2 13 a_3 x3).bind fun v_4 => (xgR r_2.2 o0 3 6).bind fun a_5 => (xaI r_2.2 13 a_5 x1).bind fun v_6 => (if v_6 ≤ (r_2.1 + v_4) then j38_103 k17 (l38_57 k17 n) o0 x1 x2 x3 (r_2.1 + v_4) r_2.2 else (xgR r_2.2 o0 3 5).bind fun a_8 => (xaS r_2.2 13 (fun x => x) a_8 x1 x3).bind fun h_9 => (xgR h_9 o0 3 6).bind fun a_10 => (xaS h_9 13 (fun x => x) a_10 x1 (r_2.1 + v_4)).bind fun h_11 => j38_103 k17 (l38_57 k17 n) o0 x1 x2 x3 (r_2.1 + v_4) h_11))
theorem l38_57_ok {xs : List Int32} {d : Nat} (hd : 4 ≤ d) {k17 : Option Nat → Int32 → xH → Option xH} (hk17 : ∀ {u2 : Value} {u3 : Value} {u4 : Value} {o0 : Option Nat} {x1 : Int32} {h : xH} {r : xH}, u2.category = 1 → u3.category = 1 → u4.category = 1 → k17 o0 x1 h = some r → xEv (xTa xs) d 38 (17, [xrv o0, .int x1, u2, u3, u4], [], h) (none, r)) : ∀ (n : Nat) {u4 : Value} {o0 : Option Nat} {x1 : Int32} {x2 : Int32} {x3 : Int32} {h : xH} {r : xH} (hu4 : u4.category = 1), l38_57 k17 n o0 x1 x2 x3 h = some r → xEv (xTa xs) d 38 (57, [xrv o0, .int x1, .int x2, .int x3, u4], [], h) (none, r) := by
  intro n
  induction n with
  | zero => intros; rename_i hf; cases hf
  | succ n ih =>
    intro u4 o0 x1 x2 x3 h r hu4 hf
    replace hf : ((if x3 ≤ x1 then k17 o0 (x1 + (-1)) h else (xcv h o0 3).bind fun _ => (fn36 o0 x1 x3 h).bind fun r_2 => (xgR r_2.2 o0 3 6).bind fun a_3 => (xaI r_2.2 13 a_3 x3).bind fun v_4 => (xgR r_2.2 o0 3 6).bind fun a_5 => (xaI r_2.2 13 a_5 x1).bind fun v_6 => (if v_6 ≤ (r_2.1 + v_4) then j38_103 k17 (l38_57 k17 n) o0 x1 x2 x3 (r_2.1 + v_4) r_2.2 else (xgR r_2.2 o0 3 5).bind fun a_8 => (xaS r_2.2 13 (fun x => x) a_8 x1 x3).bind fun h_9 => (xgR h_9 o0 3 6).bind fun a_10 => (xaS h_9 13 (fun x => x) a_10 x1 (r_2.1 + v_4)).bind fun h_11 => j38_103 k17 (l38_57 k17 n) o0 x1 x2 x3 (r_2.1 + v_4) h_11))) = some r := hf
    refine ev_do i38_57 rfl ?_
    refine ev_do i38_58 rfl ?_
    refine ev_icmp (t := 109) i38_59 rfl (fun c_1 => ?_) (fun c_1 => ?_)
    · replace hf := x_pos (show x3 ≤ x1 from c_1) hf
      refine sh_inc (i' := 1) i38_109 rfl (xokst_of (Nat.le_of_ble_eq_true rfl) (xrv_cat (o0))) rfl ?_
      refine sh_goto (t := 17) i38_112 rfl ?_
      exact hk17 rfl rfl hu4 hf
    · replace hf := x_neg (show ¬ x3 ≤ x1 from c_1) hf
      refine sh_aload (i' := 0) (n := 1) i38_62 (Or.inr ⟨rfl, by decide⟩) rfl ?_
      refine ev_do i38_63 rfl ?_
      refine ev_do i38_64 rfl ?_
      obtain ⟨_, eu_12, hf⟩ := x_bind hf
      obtain ⟨r_2, er_2, hf⟩ := x_bind hf
      refine sh_inv (as := [.int x3, .int x1]) (z := (some (.int r_2.1), r_2.2)) i38_65 v38_253 (Or.inl ⟨by decide, rfl⟩) m36 rfl (Nat.le_of_ble_eq_true rfl) eu_12 (fn36_call (by omega) er_2) ?_
      refine sh_aload (i' := 0) (n := 1) i38_68 (Or.inr ⟨rfl, by decide⟩) rfl ?_
      obtain ⟨a_3, ea_3, hf⟩ := x_bind hf
      refine sh_getR i38_69 f38_33 ea_3 ?_
      refine ev_do i38_72 rfl ?_
      obtain ⟨v_4, ev_4, hf⟩ := x_bind hf
      refine sh_aldI (tg := 13) i38_73 (Or.inl ⟨rfl, rfl⟩) ev_4 ?_
      refine ev_do i38_74 rfl ?_
      refine sh_istore (i' := 4) (n := 2) i38_75 (Or.inl rfl) (xokst_of (Nat.le_of_ble_eq_true rfl) rfl) ?_
      refine ev_do i38_77 rfl ?_
      refine sh_aload (i' := 0) (n := 1) i38_79 (Or.inr ⟨rfl, by decide⟩) rfl ?_
      obtain ⟨a_5, ea_5, hf⟩ := x_bind hf
      refine sh_getR i38_80 f38_33 ea_5 ?_
      refine ev_do i38_83 rfl ?_
      obtain ⟨v_6, ev_6, hf⟩ := x_bind hf
      refine sh_aldI (tg := 13) i38_84 (Or.inl ⟨rfl, rfl⟩) ev_6 ?_
      refine ev_icmp (t := 103) i38_85 rfl (fun c_7 => ?_) (fun c_7 => ?_)
      · replace hf := x_pos (show v_6 ≤ (r_2.1 + v_4) from c_7) hf
        exact j38_103_ok hd hk17 ih hf
      · replace hf := x_neg (show ¬ v_6 ≤ (r_2.1 + v_4) from c_7) hf
        refine sh_aload (i' := 0) (n := 1) i38_88 (Or.inr ⟨rfl, by decide⟩) rfl ?_
        obtain ⟨a_8, ea_8, hf⟩ := x_bind hf
        refine sh_getR i38_89 f38_30 ea_8 ?_
        refine ev_do i38_92 rfl ?_
        refine ev_do i38_93 rfl ?_
        obtain ⟨h_9, eh_9, hf⟩ := x_bind hf
        refine sh_ast (tg := 13) i38_94 (Or.inl ⟨rfl, rfl, rfl⟩) eh_9 ?_
        refine sh_aload (i' := 0) (n := 1) i38_95 (Or.inr ⟨rfl, by decide⟩) rfl ?_
        obtain ⟨a_10, ea_10, hf⟩ := x_bind hf
        refine sh_getR i38_96 f38_33 ea_10 ?_
        refine ev_do i38_99 rfl ?_
        refine ev_do i38_100 rfl ?_
        obtain ⟨h_11, eh_11, hf⟩ := x_bind hf
        refine sh_ast (tg := 13) i38_102 (Or.inl ⟨rfl, rfl, rfl⟩) eh_11 ?_
        exact j38_103_ok hd hk17 ih hf
def l38_17  : Nat → Option Nat → Int32 → xH → Option xH
  | 0 => fun _ _ _ => none
  | n + 1 => fun o0 x1 h => (if x1 < 0 then some h else (xcv h o0 3).bind fun _ => (fn35 o0 x1 h).bind fun r_2 => (xgR r_2.2 o0 3 5).bind fun a_3 => (xaS r_2.2 13 (fun x => x) a_3 x1 r_2.1).bind fun h_4 => (xgR h_4 o0 3 6).bind fun a_5 => (xcv h_4 o0 3).bind fun _ => (fn36 o0 x1 r_2.1 h_4).bind fun r_6 => (xgR r_6.2 o0 3 6).bind fun a_7 => (xaI r_6.2 13 a_7 r_2.1).bind fun v_8 => (xaS r_6.2 13 (fun x => x) a_5 x1 (r_6.1 + v_8)).bind fun h_9 => l38_57 (l38_17 n) xFuel o0 x1 r_2.1 (r_2.1 - 1) h_9)
theorem l38_17_ok {xs : List Int32} {d : Nat} (hd : 4 ≤ d) : ∀ (n : Nat) {u2 : Value} {u3 : Value} {u4 : Value} {o0 : Option Nat} {x1 : Int32} {h : xH} {r : xH} (hu2 : u2.category = 1) (hu3 : u3.category = 1) (hu4 : u4.category = 1), l38_17 n o0 x1 h = some r → xEv (xTa xs) d 38 (17, [xrv o0, .int x1, u2, u3, u4], [], h) (none, r) := by
  intro n
  induction n with
  | zero => intros; rename_i hf; cases hf
  | succ n ih =>
    intro u2 u3 u4 o0 x1 h r hu2 hu3 hu4 hf
    replace hf : ((if x1 < 0 then some h else (xcv h o0 3).bind fun _ => (fn35 o0 x1 h).bind fun r_2 => (xgR r_2.2 o0 3 5).bind fun a_3 => (xaS r_2.2 13 (fun x => x) a_3 x1 r_2.1).bind fun h_4 => (xgR h_4 o0 3 6).bind fun a_5 => (xcv h_4 o0 3).bind fun _ => (fn36 o0 x1 r_2.1 h_4).bind fun r_6 => (xgR r_6.2 o0 3 6).bind fun a_7 => (xaI r_6.2 13 a_7 r_2.1).bind fun v_8 => (xaS r_6.2 13 (fun x => x) a_5 x1 (r_6.1 + v_8)).bind fun h_9 => l38_57 (l38_17 n) xFuel o0 x1 r_2.1 (r_2.1 - 1) h_9)) = some r := hf
    refine ev_do i38_17 rfl ?_
    refine ev_if (t := 115) i38_18 rfl (fun c_1 => ?_) (fun c_1 => ?_)
    · replace hf := x_pos (show x1 < 0 from c_1) hf
      obtain rfl := Option.some.inj hf
      exact sh_vret i38_115 m38 rfl
    · replace hf := x_neg (show ¬ x1 < 0 from c_1) hf
      refine sh_aload (i' := 0) (n := 1) i38_21 (Or.inr ⟨rfl, by decide⟩) rfl ?_
      refine ev_do i38_22 rfl ?_
      obtain ⟨_, eu_11, hf⟩ := x_bind hf
      obtain ⟨r_2, er_2, hf⟩ := x_bind hf
      refine sh_inv (as := [.int x1]) (z := (some (.int r_2.1), r_2.2)) i38_23 v38_250 (Or.inl ⟨by decide, rfl⟩) m35 rfl (Nat.le_of_ble_eq_true rfl) eu_11 (fn35_call (by omega) er_2) ?_
      refine sh_istore (i' := 2) (n := 1) i38_26 (Or.inr ⟨rfl, by decide⟩) (xokst_of (Nat.le_of_ble_eq_true rfl) rfl) ?_
      refine sh_aload (i' := 0) (n := 1) i38_27 (Or.inr ⟨rfl, by decide⟩) rfl ?_
      obtain ⟨a_3, ea_3, hf⟩ := x_bind hf
      refine sh_getR i38_28 f38_30 ea_3 ?_
      refine ev_do i38_31 rfl ?_
      refine ev_do i38_32 rfl ?_
      obtain ⟨h_4, eh_4, hf⟩ := x_bind hf
      refine sh_ast (tg := 13) i38_33 (Or.inl ⟨rfl, rfl, rfl⟩) eh_4 ?_
      refine sh_aload (i' := 0) (n := 1) i38_34 (Or.inr ⟨rfl, by decide⟩) rfl ?_
      obtain ⟨a_5, ea_5, hf⟩ := x_bind hf
      refine sh_getR i38_35 f38_33 ea_5 ?_
      refine ev_do i38_38 rfl ?_
      refine sh_aload (i' := 0) (n := 1) i38_39 (Or.inr ⟨rfl, by decide⟩) rfl ?_
      refine ev_do i38_40 rfl ?_
      refine ev_do i38_41 rfl ?_
      obtain ⟨_, eu_10, hf⟩ := x_bind hf
      obtain ⟨r_6, er_6, hf⟩ := x_bind hf
      refine sh_inv (as := [.int r_2.1, .int x1]) (z := (some (.int r_6.1), r_6.2)) i38_42 v38_253 (Or.inl ⟨by decide, rfl⟩) m36 rfl (by simp [xcat, xrv_cat, xc_i, xc_j, xc_a, xc_f]) eu_10 (fn36_call (by omega) er_6) ?_
      refine sh_aload (i' := 0) (n := 1) i38_45 (Or.inr ⟨rfl, by decide⟩) rfl ?_
      obtain ⟨a_7, ea_7, hf⟩ := x_bind hf
      refine sh_getR i38_46 f38_33 ea_7 ?_
      refine ev_do i38_49 rfl ?_
      obtain ⟨v_8, ev_8, hf⟩ := x_bind hf
      refine sh_aldI (tg := 13) i38_50 (Or.inl ⟨rfl, rfl⟩) ev_8 ?_
      refine ev_do i38_51 rfl ?_
      obtain ⟨h_9, eh_9, hf⟩ := x_bind hf
      refine sh_ast (tg := 13) i38_52 (Or.inl ⟨rfl, rfl, rfl⟩) eh_9 ?_
      refine ev_do i38_53 rfl ?_
      refine ev_do i38_54 rfl ?_
      refine ev_do i38_55 rfl ?_
      refine sh_istore (i' := 3) (n := 1) i38_56 (Or.inr ⟨rfl, by decide⟩) (xokst_of (Nat.le_of_ble_eq_true rfl) rfl) ?_
      exact l38_57_ok hd ih xFuel hu4 hf
def fn38 (o0 : Option Nat) (h : xH) : Option xH := (xgR h o0 3 6).bind fun a_1 => (xgI h o0 3 4).bind fun v_2 => (xaS h 13 (fun x => x) a_1 v_2 0).bind fun h_3 => (xgI h_3 o0 3 4).bind fun v_4 => l38_17 xFuel o0 (v_4 - 1) h_3
theorem fn38_call {xs : List Int32} {d : Nat} (hd : 5 ≤ d) {o0 : Option Nat} {h : xH} {r : xH} (hf : fn38 o0 h = some r) : xCall (xTa xs) d 38 [xrv o0] h (none, r) := by
  obtain ⟨d, rfl⟩ : ∃ d2, d = d2 + 1 := ⟨d - 1, by omega⟩
  replace hd : 4 ≤ d := by omega
  refine call_of2 (fl := [xrv o0]) (Ls := [xrv o0, .float 0, .float 0, .float 0, .float 0]) m38 (by simp [xfl, xrv_cat, xc_i, xc_j, xc_a, xc_f]) (Nat.le_of_ble_eq_true rfl) rfl ?_
  unfold fn38 at hf
  refine sh_aload (i' := 0) (n := 1) i38_0 (Or.inr ⟨rfl, by decide⟩) rfl ?_
  obtain ⟨a_1, ea_1, hf⟩ := x_bind hf
  refine sh_getR i38_1 f38_33 ea_1 ?_
  refine sh_aload (i' := 0) (n := 1) i38_4 (Or.inr ⟨rfl, by decide⟩) rfl ?_
  obtain ⟨v_2, ev_2, hf⟩ := x_bind hf
  refine sh_getI i38_5 f38_166 ev_2 ?_
  refine ev_do i38_8 rfl ?_
  obtain ⟨h_3, eh_3, hf⟩ := x_bind hf
  refine sh_ast (tg := 13) i38_9 (Or.inl ⟨rfl, rfl, rfl⟩) eh_3 ?_
  refine sh_aload (i' := 0) (n := 1) i38_10 (Or.inr ⟨rfl, by decide⟩) rfl ?_
  obtain ⟨v_4, ev_4, hf⟩ := x_bind hf
  refine sh_getI i38_11 f38_166 ev_4 ?_
  refine ev_do i38_14 rfl ?_
  refine ev_do i38_15 rfl ?_
  refine sh_istore (i' := 1) (n := 1) i38_16 (Or.inr ⟨rfl, by decide⟩) (xokst_of (Nat.le_of_ble_eq_true rfl) (xrv_cat (o0))) ?_
  exact l38_17_ok hd xFuel rfl rfl rfl hf
end
section
def l53_2  : Nat → Option Nat → Int32 → Int32 → xH → Option xH
  | 0 => fun _ _ _ _ => none
  | n + 1 => fun o0 x1 x2 h => (if x1 ≤ x2 then some h else (xcv h o0 5).bind fun _ => (fn52 o0 32 h).bind fun h_2 => l53_2 n o0 x1 (x2 + 1) h_2)
theorem l53_2_ok {xs : List Int32} {d : Nat} (hd : 3 ≤ d) : ∀ (n : Nat) {o0 : Option Nat} {x1 : Int32} {x2 : Int32} {h : xH} {r : xH}, l53_2 n o0 x1 x2 h = some r → xEv (xTa xs) d 53 (2, [xrv o0, .int x1, .int x2], [], h) (none, r) := by
  intro n
  induction n with
  | zero => intros; rename_i hf; cases hf
  | succ n ih =>
    intro o0 x1 x2 h r hf
    replace hf : ((if x1 ≤ x2 then some h else (xcv h o0 5).bind fun _ => (fn52 o0 32 h).bind fun h_2 => l53_2 n o0 x1 (x2 + 1) h_2)) = some r := hf
    refine ev_do i53_2 rfl ?_
    refine ev_do i53_3 rfl ?_
    refine ev_icmp (t := 19) i53_4 rfl (fun c_1 => ?_) (fun c_1 => ?_)
    · replace hf := x_pos (show x1 ≤ x2 from c_1) hf
      obtain rfl := Option.some.inj hf
      exact sh_vret i53_19 m53 rfl
    · replace hf := x_neg (show ¬ x1 ≤ x2 from c_1) hf
      refine sh_aload (i' := 0) (n := 1) i53_7 (Or.inr ⟨rfl, by decide⟩) rfl ?_
      refine ev_do i53_8 rfl ?_
      obtain ⟨_, eu_3, hf⟩ := x_bind hf
      obtain ⟨h_2, eh_2, hf⟩ := x_bind hf
      refine sh_inv (as := [.int 32]) (z := (none, h_2)) i53_10 v53_57 (Or.inl ⟨by decide, rfl⟩) m52 rfl (Nat.le_of_ble_eq_true rfl) eu_3 (fn52_call (by omega) eh_2) ?_
      refine sh_inc (i' := 2) i53_13 rfl (xokst_of (Nat.le_of_ble_eq_true rfl) rfl) rfl ?_
      refine sh_goto (t := 2) i53_16 rfl ?_
      exact ih hf
def fn53 (o0 : Option Nat) (x1 : Int32) (h : xH) : Option xH := l53_2 xFuel o0 x1 0 h
theorem fn53_call {xs : List Int32} {d : Nat} (hd : 4 ≤ d) {o0 : Option Nat} {x1 : Int32} {h : xH} {r : xH} (hf : fn53 o0 x1 h = some r) : xCall (xTa xs) d 53 [xrv o0, .int x1] h (none, r) := by
  obtain ⟨d, rfl⟩ : ∃ d2, d = d2 + 1 := ⟨d - 1, by omega⟩
  replace hd : 3 ≤ d := by omega
  refine call_of2 (fl := [xrv o0, .int x1]) (Ls := [xrv o0, .int x1, .float 0]) m53 (by simp [xfl, xrv_cat, xc_i, xc_j, xc_a, xc_f]) (Nat.le_of_ble_eq_true rfl) rfl ?_
  unfold fn53 at hf
  refine ev_do i53_0 rfl ?_
  refine sh_istore (i' := 2) (n := 1) i53_1 (Or.inr ⟨rfl, by decide⟩) (xokst_of (Nat.le_of_ble_eq_true rfl) rfl) ?_
  exact l53_2_ok hd xFuel hf
end
section
def j39_147  (o0 : Option Nat) (o1 : Option Nat) (x2 : Int32) (x3 : Int32) (h : xH) : Option xH := some h
theorem j39_147_ok {xs : List Int32} {d : Nat} (hd : 4 ≤ d) {u4 : Value} {u5 : Value} {o0 : Option Nat} {o1 : Option Nat} {x2 : Int32} {x3 : Int32} {h : xH} {r : xH} (hu4 : u4.category = 1) (hu5 : u5.category = 1) (hf : j39_147 o0 o1 x2 x3 h = some r) : xEv (xTa xs) d 39 (147, [xrv o0, xrv o1, .int x2, .int x3, u4, u5], [], h) (none, r) := by
  unfold j39_147 at hf
  obtain rfl := Option.some.inj hf
  exact sh_vret i39_147 m39 rfl
def l39_77 (k15 : Option Nat → Option Nat → Int32 → Int32 → xH → Option xH) : Nat → Option Nat → Option Nat → Int32 → Int32 → Int32 → Int32 → xH → Option xH
  | 0 => fun _ _ _ _ _ _ _ => none
  | n + 1 => fun o0 o1 x2 x3 x4 x5 h => (if x4 ≤ x5 then (xcv h o1 5).bind fun _ => (fn56 o1 h).bind fun h_2 => (xgI h_2 o1 5 5).bind fun v_3 => (xcv h_2 o0 3).bind fun _ => (fn36 o0 x2 x4 h_2).bind fun r_4 => (xpF r_4.2 o1 5 5 .int (.int (v_3 + r_4.1))).bind fun h_5 => k15 o0 o1 x4 (x3 + 1) h_5 else (xcv h o1 5).bind fun _ => (fn52 o1 32 h).bind fun h_8 => (xgR h_8 o0 3 2).bind fun a_9 => (xcv h_8 o0 3).bind fun _ => (fn34 o0 x5 h_8).bind fun r_10 => (xcv r_10.2 o0 3).bind fun _ => (fn34 o0 (x5 + 1) r_10.2).bind fun r_11 => (xcv r_11.2 o1 5).bind fun _ => (fn54 o1 a_9 r_10.1 r_11.1 r_11.2).bind fun h_12 => l39_77 k15 n o0 o1 x2 x3 x4 (x5 + 1) h_12)
theorem l39_77_ok {xs : List Int32} {d : Nat} (hd : 4 ≤ d) {k15 : Option Nat → Option Nat → Int32 → Int32 → xH → Option xH} (hk15 : ∀ {u4 : Value} {u5 : Value} {o0 : Option Nat} {o1 : Option Nat} {x2 : Int32} {x3 : Int32} {h : xH} {r : xH}, u4.category = 1 → u5.category = 1 → k15 o0 o1 x2 x3 h = some r → xEv (xTa xs) d 39 (15, [xrv o0, xrv o1, .int x2, .int x3, u4, u5], [], h) (none, r)) : ∀ (n : Nat) {o0 : Option Nat} {o1 : Option Nat} {x2 : Int32} {x3 : Int32} {x4 : Int32} {x5 : Int32} {h : xH} {r : xH}, l39_77 k15 n o0 o1 x2 x3 x4 x5 h = some r → xEv (xTa xs) d 39 (77, [xrv o0, xrv o1, .int x2, .int x3, .int x4, .int x5], [], h) (none, r) := by
  intro n
  induction n with
  | zero => intros; rename_i hf; cases hf
  | succ n ih =>
    intro o0 o1 x2 x3 x4 x5 h r hf
    replace hf : ((if x4 ≤ x5 then (xcv h o1 5).bind fun _ => (fn56 o1 h).bind fun h_2 => (xgI h_2 o1 5 5).bind fun v_3 => (xcv h_2 o0 3).bind fun _ => (fn36 o0 x2 x4 h_2).bind fun r_4 => (xpF r_4.2 o1 5 5 .int (.int (v_3 + r_4.1))).bind fun h_5 => k15 o0 o1 x4 (x3 + 1) h_5 else (xcv h o1 5).bind fun _ => (fn52 o1 32 h).bind fun h_8 => (xgR h_8 o0 3 2).bind fun a_9 => (xcv h_8 o0 3).bind fun _ => (fn34 o0 x5 h_8).bind fun r_10 => (xcv r_10.2 o0 3).bind fun _ => (fn34 o0 (x5 + 1) r_10.2).bind fun r_11 => (xcv r_11.2 o1 5).bind fun _ => (fn54 o1 a_9 r_10.1 r_11.1 r_11.2).bind fun h_12 => l39_77 k15 n o0 o1 x2 x3 x4 (x5 + 1) h_12)) = some r := hf
    refine ev_do i39_77 rfl ?_
    refine ev_do i39_79 rfl ?_
    refine ev_icmp (t := 118) i39_81 rfl (fun c_1 => ?_) (fun c_1 => ?_)
    · replace hf := x_pos (show x4 ≤ x5 from c_1) hf
      refine sh_aload (i' := 1) (n := 1) i39_118 (Or.inr ⟨rfl, by decide⟩) rfl ?_
      obtain ⟨_, eu_7, hf⟩ := x_bind hf
      obtain ⟨h_2, eh_2, hf⟩ := x_bind hf
      refine sh_inv (as := []) (z := (none, h_2)) i39_119 v39_95 (Or.inl ⟨by decide, rfl⟩) m56 rfl (Nat.le_of_ble_eq_true rfl) eu_7 (fn56_call (by omega) eh_2) ?_
      refine sh_aload (i' := 1) (n := 1) i39_122 (Or.inr ⟨rfl, by decide⟩) rfl ?_
      refine sh_dup i39_123 (xrv_cat (o1)) ?_
      obtain ⟨v_3, ev_3, hf⟩ := x_bind hf
      refine sh_getI i39_124 f39_256 ev_3 ?_
      refine sh_aload (i' := 0) (n := 1) i39_127 (Or.inr ⟨rfl, by decide⟩) rfl ?_
      refine ev_do i39_128 rfl ?_
      refine ev_do i39_129 rfl ?_
      obtain ⟨_, eu_6, hf⟩ := x_bind hf
      obtain ⟨r_4, er_4, hf⟩ := x_bind hf
      refine sh_inv (as := [.int x4, .int x2]) (z := (some (.int r_4.1), r_4.2)) i39_131 v39_253 (Or.inl ⟨by decide, rfl⟩) m36 rfl (by simp [xcat, xrv_cat, xc_i, xc_j, xc_a, xc_f]) eu_6 (fn36_call (by omega) er_4) ?_
      refine ev_do i39_134 rfl ?_
      obtain ⟨h_5, eh_5, hf⟩ := x_bind hf
      refine sh_put i39_135 f39_256 (by decide) rfl eh_5 ?_
      refine ev_do i39_138 rfl ?_
      refine sh_istore (i' := 2) (n := 1) i39_140 (Or.inr ⟨rfl, by decide⟩) (xokst_of (Nat.le_of_ble_eq_true rfl) (xrv_cat (o1))) ?_
      refine sh_inc (i' := 3) i39_141 rfl (xokst_of (Nat.le_of_ble_eq_true rfl) rfl) rfl ?_
      refine sh_goto (t := 15) i39_144 rfl ?_
      exact hk15 rfl rfl hf
    · replace hf := x_neg (show ¬ x4 ≤ x5 from c_1) hf
      refine sh_aload (i' := 1) (n := 1) i39_84 (Or.inr ⟨rfl, by decide⟩) rfl ?_
      refine ev_do i39_85 rfl ?_
      obtain ⟨_, eu_16, hf⟩ := x_bind hf
      obtain ⟨h_8, eh_8, hf⟩ := x_bind hf
      refine sh_inv (as := [.int 32]) (z := (none, h_8)) i39_87 v39_138 (Or.inl ⟨by decide, rfl⟩) m52 rfl (Nat.le_of_ble_eq_true rfl) eu_16 (fn52_call (by omega) eh_8) ?_
      refine sh_aload (i' := 1) (n := 1) i39_90 (Or.inr ⟨rfl, by decide⟩) rfl ?_
      refine sh_aload (i' := 0) (n := 1) i39_91 (Or.inr ⟨rfl, by decide⟩) rfl ?_
      obtain ⟨a_9, ea_9, hf⟩ := x_bind hf
      refine sh_getR i39_92 f39_22 ea_9 ?_
      refine sh_aload (i' := 0) (n := 1) i39_95 (Or.inr ⟨rfl, by decide⟩) rfl ?_
      refine ev_do i39_96 rfl ?_
      obtain ⟨_, eu_15, hf⟩ := x_bind hf
      obtain ⟨r_10, er_10, hf⟩ := x_bind hf
      refine sh_inv (as := [.int x5]) (z := (some (.int r_10.1), r_10.2)) i39_98 v39_237 (Or.inl ⟨by decide, rfl⟩) m34 rfl (by simp [xcat, xrv_cat, xc_i, xc_j, xc_a, xc_f]) eu_15 (fn34_call (by omega) er_10) ?_
      refine sh_aload (i' := 0) (n := 1) i39_101 (Or.inr ⟨rfl, by decide⟩) rfl ?_
      refine ev_do i39_102 rfl ?_
      refine ev_do i39_104 rfl ?_
      refine ev_do i39_105 rfl ?_
      obtain ⟨_, eu_14, hf⟩ := x_bind hf
      obtain ⟨r_11, er_11, hf⟩ := x_bind hf
      refine sh_inv (as := [.int (x5 + 1)]) (z := (some (.int r_11.1), r_11.2)) i39_106 v39_237 (Or.inl ⟨by decide, rfl⟩) m34 rfl (by simp [xcat, xrv_cat, xc_i, xc_j, xc_a, xc_f]) eu_14 (fn34_call (by omega) er_11) ?_
      obtain ⟨_, eu_13, hf⟩ := x_bind hf
      obtain ⟨h_12, eh_12, hf⟩ := x_bind hf
      refine sh_inv (as := [.int r_11.1, .int r_10.1, xrv a_9]) (z := (none, h_12)) i39_109 v39_134 (Or.inl ⟨by decide, rfl⟩) m54 rfl (Nat.le_of_ble_eq_true rfl) eu_13 (fn54_call (by omega) eh_12) ?_
      refine sh_inc (i' := 5) i39_112 rfl (xokst_of (Nat.le_of_ble_eq_true rfl) rfl) rfl ?_
      refine sh_goto (t := 77) i39_115 rfl ?_
      exact ih hf
def j39_52 (k15 : Option Nat → Option Nat → Int32 → Int32 → xH → Option xH) (o0 : Option Nat) (o1 : Option Nat) (x2 : Int32) (x3 : Int32) (x4 : Int32) (h : xH) : Option xH := (xgR h o0 3 2).bind fun a_1 => (xcv h o0 3).bind fun _ => (fn34 o0 x2 h).bind fun r_2 => (xcv r_2.2 o0 3).bind fun _ => (fn34 o0 (x2 + 1) r_2.2).bind fun r_3 => (xcv r_3.2 o1 5).bind fun _ => (fn54 o1 a_1 r_2.1 r_3.1 r_3.2).bind fun h_4 => l39_77 k15 xFuel o0 o1 x2 x3 x4 (x2 + 1) h_4
theorem j39_52_ok {xs : List Int32} {d : Nat} (hd : 4 ≤ d) {k15 : Option Nat → Option Nat → Int32 → Int32 → xH → Option xH} (hk15 : ∀ {u4 : Value} {u5 : Value} {o0 : Option Nat} {o1 : Option Nat} {x2 : Int32} {x3 : Int32} {h : xH} {r : xH}, u4.category = 1 → u5.category = 1 → k15 o0 o1 x2 x3 h = some r → xEv (xTa xs) d 39 (15, [xrv o0, xrv o1, .int x2, .int x3, u4, u5], [], h) (none, r)) {u5 : Value} {o0 : Option Nat} {o1 : Option Nat} {x2 : Int32} {x3 : Int32} {x4 : Int32} {h : xH} {r : xH} (hu5 : u5.category = 1) (hf : j39_52 k15 o0 o1 x2 x3 x4 h = some r) : xEv (xTa xs) d 39 (52, [xrv o0, xrv o1, .int x2, .int x3, .int x4, u5], [], h) (none, r) := by
  unfold j39_52 at hf
  refine sh_aload (i' := 1) (n := 1) i39_52 (Or.inr ⟨rfl, by decide⟩) rfl ?_
  refine sh_aload (i' := 0) (n := 1) i39_53 (Or.inr ⟨rfl, by decide⟩) rfl ?_
  obtain ⟨a_1, ea_1, hf⟩ := x_bind hf
  refine sh_getR i39_54 f39_22 ea_1 ?_
  refine sh_aload (i' := 0) (n := 1) i39_57 (Or.inr ⟨rfl, by decide⟩) rfl ?_
  refine ev_do i39_58 rfl ?_
  obtain ⟨_, eu_7, hf⟩ := x_bind hf
  obtain ⟨r_2, er_2, hf⟩ := x_bind hf
  refine sh_inv (as := [.int x2]) (z := (some (.int r_2.1), r_2.2)) i39_59 v39_237 (Or.inl ⟨by decide, rfl⟩) m34 rfl (by simp [xcat, xrv_cat, xc_i, xc_j, xc_a, xc_f]) eu_7 (fn34_call (by omega) er_2) ?_
  refine sh_aload (i' := 0) (n := 1) i39_62 (Or.inr ⟨rfl, by decide⟩) rfl ?_
  refine ev_do i39_63 rfl ?_
  refine ev_do i39_64 rfl ?_
  refine ev_do i39_65 rfl ?_
  obtain ⟨_, eu_6, hf⟩ := x_bind hf
  obtain ⟨r_3, er_3, hf⟩ := x_bind hf
  refine sh_inv (as := [.int (x2 + 1)]) (z := (some (.int r_3.1), r_3.2)) i39_66 v39_237 (Or.inl ⟨by decide, rfl⟩) m34 rfl (by simp [xcat, xrv_cat, xc_i, xc_j, xc_a, xc_f]) eu_6 (fn34_call (by omega) er_3) ?_
  obtain ⟨_, eu_5, hf⟩ := x_bind hf
  obtain ⟨h_4, eh_4, hf⟩ := x_bind hf
  refine sh_inv (as := [.int r_3.1, .int r_2.1, xrv a_1]) (z := (none, h_4)) i39_69 v39_134 (Or.inl ⟨by decide, rfl⟩) m54 rfl (Nat.le_of_ble_eq_true rfl) eu_5 (fn54_call (by omega) eh_4) ?_
  refine ev_do i39_72 rfl ?_
  refine ev_do i39_73 rfl ?_
  refine ev_do i39_74 rfl ?_
  refine sh_istore (i' := 5) (n := 2) i39_75 (Or.inl rfl) (xokst_of (Nat.le_of_ble_eq_true rfl) rfl) ?_
  exact l39_77_ok hd hk15 xFuel hf
def l39_15  : Nat → Option Nat → Option Nat → Int32 → Int32 → xH → Option xH
  | 0 => fun _ _ _ _ _ => none
  | n + 1 => fun o0 o1 x2 x3 h => (xgR h o0 3 3).bind fun a_1 => (xaN h a_1).bind fun v_2 => (if v_2 ≤ x3 then j39_147 o0 o1 x2 x3 h else (xgI h o0 3 4).bind fun v_4 => (if v_4 ≤ x2 then j39_147 o0 o1 x2 x3 h else (xgR h o0 3 5).bind fun a_6 => (xaI h 13 a_6 x2).bind fun v_7 => (if x2 ≤ 0 then j39_52 (l39_15 n) o0 o1 x2 x3 v_7 h else (xgI h o0 3 9).bind fun v_9 => (xcv h o1 5).bind fun _ => (fn53 o1 v_9 h).bind fun h_10 => j39_52 (l39_15 n) o0 o1 x2 x3 v_7 h_10)))
theorem l39_15_ok {xs : List Int32} {d : Nat} (hd : 4 ≤ d) : ∀ (n : Nat) {u4 : Value} {u5 : Value} {o0 : Option Nat} {o1 : Option Nat} {x2 : Int32} {x3 : Int32} {h : xH} {r : xH} (hu4 : u4.category = 1) (hu5 : u5.category = 1), l39_15 n o0 o1 x2 x3 h = some r → xEv (xTa xs) d 39 (15, [xrv o0, xrv o1, .int x2, .int x3, u4, u5], [], h) (none, r) := by
  intro n
  induction n with
  | zero => intros; rename_i hf; cases hf
  | succ n ih =>
    intro u4 u5 o0 o1 x2 x3 h r hu4 hu5 hf
    replace hf : ((xgR h o0 3 3).bind fun a_1 => (xaN h a_1).bind fun v_2 => (if v_2 ≤ x3 then j39_147 o0 o1 x2 x3 h else (xgI h o0 3 4).bind fun v_4 => (if v_4 ≤ x2 then j39_147 o0 o1 x2 x3 h else (xgR h o0 3 5).bind fun a_6 => (xaI h 13 a_6 x2).bind fun v_7 => (if x2 ≤ 0 then j39_52 (l39_15 n) o0 o1 x2 x3 v_7 h else (xgI h o0 3 9).bind fun v_9 => (xcv h o1 5).bind fun _ => (fn53 o1 v_9 h).bind fun h_10 => j39_52 (l39_15 n) o0 o1 x2 x3 v_7 h_10)))) = some r := hf
    refine ev_do i39_15 rfl ?_
    refine sh_aload (i' := 0) (n := 1) i39_16 (Or.inr ⟨rfl, by decide⟩) rfl ?_
    obtain ⟨a_1, ea_1, hf⟩ := x_bind hf
    refine sh_getR i39_17 f39_26 ea_1 ?_
    obtain ⟨v_2, ev_2, hf⟩ := x_bind hf
    refine sh_len i39_20 ev_2 ?_
    refine ev_icmp (t := 147) i39_21 rfl (fun c_3 => ?_) (fun c_3 => ?_)
    · replace hf := x_pos (show v_2 ≤ x3 from c_3) hf
      exact j39_147_ok hd hu4 hu5 hf
    · replace hf := x_neg (show ¬ v_2 ≤ x3 from c_3) hf
      refine ev_do i39_24 rfl ?_
      refine sh_aload (i' := 0) (n := 1) i39_25 (Or.inr ⟨rfl, by decide⟩) rfl ?_
      obtain ⟨v_4, ev_4, hf⟩ := x_bind hf
      refine sh_getI i39_26 f39_166 ev_4 ?_
      refine ev_icmp (t := 147) i39_29 rfl (fun c_5 => ?_) (fun c_5 => ?_)
      · replace hf := x_pos (show v_4 ≤ x2 from c_5) hf
        exact j39_147_ok hd hu4 hu5 hf
      · replace hf := x_neg (show ¬ v_4 ≤ x2 from c_5) hf
        refine sh_aload (i' := 0) (n := 1) i39_32 (Or.inr ⟨rfl, by decide⟩) rfl ?_
        obtain ⟨a_6, ea_6, hf⟩ := x_bind hf
        refine sh_getR i39_33 f39_30 ea_6 ?_
        refine ev_do i39_36 rfl ?_
        obtain ⟨v_7, ev_7, hf⟩ := x_bind hf
        refine sh_aldI (tg := 13) i39_37 (Or.inl ⟨rfl, rfl⟩) ev_7 ?_
        refine sh_istore (i' := 4) (n := 2) i39_38 (Or.inl rfl) (xokst_of (Nat.le_of_ble_eq_true rfl) rfl) ?_
        refine ev_do i39_40 rfl ?_
        refine ev_if (t := 52) i39_41 rfl (fun c_8 => ?_) (fun c_8 => ?_)
        · replace hf := x_pos (show x2 ≤ 0 from c_8) hf
          exact j39_52_ok hd ih hu5 hf
        · replace hf := x_neg (show ¬ x2 ≤ 0 from c_8) hf
          refine sh_aload (i' := 1) (n := 1) i39_44 (Or.inr ⟨rfl, by decide⟩) rfl ?_
          refine sh_aload (i' := 0) (n := 1) i39_45 (Or.inr ⟨rfl, by decide⟩) rfl ?_
          obtain ⟨v_9, ev_9, hf⟩ := x_bind hf
          refine sh_getI i39_46 f39_154 ev_9 ?_
          obtain ⟨_, eu_11, hf⟩ := x_bind hf
          obtain ⟨h_10, eh_10, hf⟩ := x_bind hf
          refine sh_inv (as := [.int v_9]) (z := (none, h_10)) i39_49 v39_163 (Or.inl ⟨by decide, rfl⟩) m53 rfl (Nat.le_of_ble_eq_true rfl) eu_11 (fn53_call (by omega) eh_10) ?_
          exact j39_52_ok hd ih hu5 hf
def j39_11  (o0 : Option Nat) (o1 : Option Nat) (h : xH) : Option xH := l39_15 xFuel o0 o1 0 0 h
theorem j39_11_ok {xs : List Int32} {d : Nat} (hd : 4 ≤ d) {u2 : Value} {u3 : Value} {u4 : Value} {u5 : Value} {o0 : Option Nat} {o1 : Option Nat} {h : xH} {r : xH} (hu2 : u2.category = 1) (hu3 : u3.category = 1) (hu4 : u4.category = 1) (hu5 : u5.category = 1) (hf : j39_11 o0 o1 h = some r) : xEv (xTa xs) d 39 (11, [xrv o0, xrv o1, u2, u3, u4, u5], [], h) (none, r) := by
  unfold j39_11 at hf
  refine ev_do i39_11 rfl ?_
  refine sh_istore (i' := 2) (n := 1) i39_12 (Or.inr ⟨rfl, by decide⟩) (xokst_of (Nat.le_of_ble_eq_true rfl) (xrv_cat (o1))) ?_
  refine ev_do i39_13 rfl ?_
  refine sh_istore (i' := 3) (n := 1) i39_14 (Or.inr ⟨rfl, by decide⟩) (xokst_of (Nat.le_of_ble_eq_true rfl) rfl) ?_
  exact l39_15_ok hd xFuel hu4 hu5 hf
def fn39 (o0 : Option Nat) (o1 : Option Nat) (h : xH) : Option xH := (xgI h o0 3 4).bind fun v_1 => (if v_1 = 0 then (xcv h o1 5).bind fun _ => (fn56 o1 h).bind fun h_3 => j39_11 o0 o1 h_3 else j39_11 o0 o1 h)
theorem fn39_call {xs : List Int32} {d : Nat} (hd : 5 ≤ d) {o0 : Option Nat} {o1 : Option Nat} {h : xH} {r : xH} (hf : fn39 o0 o1 h = some r) : xCall (xTa xs) d 39 [xrv o0, xrv o1] h (none, r) := by
  obtain ⟨d, rfl⟩ : ∃ d2, d = d2 + 1 := ⟨d - 1, by omega⟩
  replace hd : 4 ≤ d := by omega
  refine call_of2 (fl := [xrv o0, xrv o1]) (Ls := [xrv o0, xrv o1, .float 0, .float 0, .float 0, .float 0]) m39 (by simp [xfl, xrv_cat, xc_i, xc_j, xc_a, xc_f]) (Nat.le_of_ble_eq_true rfl) rfl ?_
  unfold fn39 at hf
  refine sh_aload (i' := 0) (n := 1) i39_0 (Or.inr ⟨rfl, by decide⟩) rfl ?_
  obtain ⟨v_1, ev_1, hf⟩ := x_bind hf
  refine sh_getI i39_1 f39_166 ev_1 ?_
  refine ev_if (t := 11) i39_4 rfl (fun c_2 => ?_) (fun c_2 => ?_)
  · replace hf := x_neg (show ¬ v_1 = 0 from c_2) hf
    exact j39_11_ok hd rfl rfl rfl rfl hf
  · replace hf := x_pos (show v_1 = 0 from Decidable.byContradiction (fun h9 => c_2 h9)) hf
    refine sh_aload (i' := 1) (n := 1) i39_7 (Or.inr ⟨rfl, by decide⟩) rfl ?_
    obtain ⟨_, eu_4, hf⟩ := x_bind hf
    obtain ⟨h_3, eh_3, hf⟩ := x_bind hf
    refine sh_inv (as := []) (z := (none, h_3)) i39_8 v39_95 (Or.inl ⟨by decide, rfl⟩) m56 rfl (Nat.le_of_ble_eq_true rfl) eu_4 (fn56_call (by omega) eh_3) ?_
    exact j39_11_ok hd rfl rfl rfl rfl hf
end
section
def j28_119  (o0 : Option Nat) (o1 : Option Nat) (o2 : Option Nat) (x3 : Int32) (x4 : Int32) (x5 : Int32) (h : xH) : Option xH := (xcv h o0 3).bind fun _ => (fn39 o0 o1 h).bind fun h_1 => some h_1
theorem j28_119_ok {xs : List Int32} {d : Nat} (hd : 8 ≤ d) {o0 : Option Nat} {o1 : Option Nat} {o2 : Option Nat} {x3 : Int32} {x4 : Int32} {x5 : Int32} {h : xH} {r : xH} (hf : j28_119 o0 o1 o2 x3 x4 x5 h = some r) : xEv (xTa xs) d 28 (119, [xrv o0, xrv o1, xrv o2, .int x3, .int x4, .int x5], [], h) (none, r) := by
  unfold j28_119 at hf
  refine sh_aload (i' := 0) (n := 1) i28_119 (Or.inr ⟨rfl, by decide⟩) rfl ?_
  refine sh_aload (i' := 1) (n := 1) i28_120 (Or.inr ⟨rfl, by decide⟩) rfl ?_
  obtain ⟨_, eu_2, hf⟩ := x_bind hf
  obtain ⟨h_1, eh_1, hf⟩ := x_bind hf
  refine sh_inv (as := [xrv o1]) (z := (none, h_1)) i28_121 v28_169 (Or.inl ⟨by decide, rfl⟩) m39 rfl (Nat.le_of_ble_eq_true rfl) eu_2 (fn39_call (by omega) eh_1) ?_
  obtain rfl := Option.some.inj hf
  exact sh_vret i28_124 m28 rfl
def j28_101  (o0 : Option Nat) (o1 : Option Nat) (o2 : Option Nat) (x3 : Int32) (x4 : Int32) (x5 : Int32) (h : xH) : Option xH := (if x4 = 0 then j28_119 o0 o1 o2 x3 x4 x5 h else (xgI h o0 3 4).bind fun v_2 => (if v_2 ≤ 0 then j28_119 o0 o1 o2 x3 x4 x5 h else (xcv h o1 5).bind fun _ => (fn52 o1 32 h).bind fun h_4 => j28_119 o0 o1 o2 x3 x4 x5 h_4))
theorem j28_101_ok {xs : List Int32} {d : Nat} (hd : 8 ≤ d) {o0 : Option Nat} {o1 : Option Nat} {o2 : Option Nat} {x3 : Int32} {x4 : Int32} {x5 : Int32} {h : xH} {r : xH} (hf : j28_101 o0 o1 o2 x3 x4 x5 h = some r) : xEv (xTa xs) d 28 (101, [xrv o0, xrv o1, xrv o2, .int x3, .int x4, .int x5], [], h) (none, r) := by
  unfold j28_101 at hf
  refine ev_do i28_101 rfl ?_
  refine ev_if (t := 119) i28_103 rfl (fun c_1 => ?_) (fun c_1 => ?_)
  · replace hf := x_pos (show x4 = 0 from c_1) hf
    exact j28_119_ok hd hf
  · replace hf := x_neg (show ¬ x4 = 0 from c_1) hf
    refine sh_aload (i' := 0) (n := 1) i28_106 (Or.inr ⟨rfl, by decide⟩) rfl ?_
    obtain ⟨v_2, ev_2, hf⟩ := x_bind hf
    refine sh_getI i28_107 f28_166 ev_2 ?_
    refine ev_if (t := 119) i28_110 rfl (fun c_3 => ?_) (fun c_3 => ?_)
    · replace hf := x_pos (show v_2 ≤ 0 from c_3) hf
      exact j28_119_ok hd hf
    · replace hf := x_neg (show ¬ v_2 ≤ 0 from c_3) hf
      refine sh_aload (i' := 1) (n := 1) i28_113 (Or.inr ⟨rfl, by decide⟩) rfl ?_
      refine ev_do i28_114 rfl ?_
      obtain ⟨_, eu_5, hf⟩ := x_bind hf
      obtain ⟨h_4, eh_4, hf⟩ := x_bind hf
      refine sh_inv (as := [.int 32]) (z := (none, h_4)) i28_116 v28_138 (Or.inl ⟨by decide, rfl⟩) m52 rfl (Nat.le_of_ble_eq_true rfl) eu_5 (fn52_call (by omega) eh_4) ?_
      exact j28_119_ok hd hf
def j28_84  (o0 : Option Nat) (o1 : Option Nat) (o2 : Option Nat) (x3 : Int32) (x4 : Int32) (x5 : Int32) (h : xH) : Option xH := (if x4 = 0 then j28_101 o0 o1 o2 x3 x4 x5 h else (xcv h o1 5).bind fun _ => (fn53 o1 x5 h).bind fun h_2 => (xcv h_2 o1 5).bind fun _ => (fn52 o1 45 h_2).bind fun h_3 => j28_101 o0 o1 o2 x3 x4 x5 h_3)
theorem j28_84_ok {xs : List Int32} {d : Nat} (hd : 8 ≤ d) {o0 : Option Nat} {o1 : Option Nat} {o2 : Option Nat} {x3 : Int32} {x4 : Int32} {x5 : Int32} {h : xH} {r : xH} (hf : j28_84 o0 o1 o2 x3 x4 x5 h = some r) : xEv (xTa xs) d 28 (84, [xrv o0, xrv o1, xrv o2, .int x3, .int x4, .int x5], [], h) (none, r) := by
  unfold j28_84 at hf
  refine ev_do i28_84 rfl ?_
  refine ev_if (t := 101) i28_86 rfl (fun c_1 => ?_) (fun c_1 => ?_)
  · replace hf := x_pos (show x4 = 0 from c_1) hf
    exact j28_101_ok hd hf
  · replace hf := x_neg (show ¬ x4 = 0 from c_1) hf
    refine sh_aload (i' := 1) (n := 1) i28_89 (Or.inr ⟨rfl, by decide⟩) rfl ?_
    refine ev_do i28_90 rfl ?_
    obtain ⟨_, eu_5, hf⟩ := x_bind hf
    obtain ⟨h_2, eh_2, hf⟩ := x_bind hf
    refine sh_inv (as := [.int x5]) (z := (none, h_2)) i28_92 v28_163 (Or.inl ⟨by decide, rfl⟩) m53 rfl (Nat.le_of_ble_eq_true rfl) eu_5 (fn53_call (by omega) eh_2) ?_
    refine sh_aload (i' := 1) (n := 1) i28_95 (Or.inr ⟨rfl, by decide⟩) rfl ?_
    refine ev_do i28_96 rfl ?_
    obtain ⟨_, eu_4, hf⟩ := x_bind hf
    obtain ⟨h_3, eh_3, hf⟩ := x_bind hf
    refine sh_inv (as := [.int 45]) (z := (none, h_3)) i28_98 v28_138 (Or.inl ⟨by decide, rfl⟩) m52 rfl (Nat.le_of_ble_eq_true rfl) eu_4 (fn52_call (by omega) eh_3) ?_
    exact j28_101_ok hd hf
def j28_65  (o0 : Option Nat) (o1 : Option Nat) (o2 : Option Nat) (x3 : Int32) (x4 : Int32) (x5 : Int32) (s0 : Option Nat) (s1 : Int32) (h : xH) : Option xH := (xpF h s0 3 9 .int (.int s1)).bind fun h_1 => (if x3 = 1 then (xcv h_1 o0 3).bind fun _ => (fn38 o0 h_1).bind fun h_3 => j28_84 o0 o1 o2 x3 x4 x5 h_3 else (xcv h_1 o0 3).bind fun _ => (fn37 o0 h_1).bind fun h_5 => j28_84 o0 o1 o2 x3 x4 x5 h_5)
theorem j28_65_ok {xs : List Int32} {d : Nat} (hd : 8 ≤ d) {o0 : Option Nat} {o1 : Option Nat} {o2 : Option Nat} {x3 : Int32} {x4 : Int32} {x5 : Int32} {s0 : Option Nat} {s1 : Int32} {h : xH} {r : xH} (hf : j28_65 o0 o1 o2 x3 x4 x5 s0 s1 h = some r) : xEv (xTa xs) d 28 (65, [xrv o0, xrv o1, xrv o2, .int x3, .int x4, .int x5], [.int s1, xrv s0], h) (none, r) := by
  unfold j28_65 at hf
  obtain ⟨h_1, eh_1, hf⟩ := x_bind hf
  refine sh_put i28_65 f28_154 (by decide) rfl eh_1 ?_
  refine ev_do i28_68 rfl ?_
  refine ev_do i28_69 rfl ?_
  refine ev_icmp (t := 80) i28_70 rfl (fun c_2 => ?_) (fun c_2 => ?_)
  · replace hf := x_neg (show ¬ x3 = 1 from c_2) hf
    refine sh_aload (i' := 0) (n := 1) i28_80 (Or.inr ⟨rfl, by decide⟩) rfl ?_
    obtain ⟨_, eu_6, hf⟩ := x_bind hf
    obtain ⟨h_5, eh_5, hf⟩ := x_bind hf
    refine sh_inv (as := []) (z := (none, h_5)) i28_81 v28_160 (Or.inl ⟨by decide, rfl⟩) m37 rfl (Nat.le_of_ble_eq_true rfl) eu_6 (fn37_call (by omega) eh_5) ?_
    exact j28_84_ok hd hf
  · replace hf := x_pos (show x3 = 1 from Decidable.byContradiction (fun h9 => c_2 h9)) hf
    refine sh_aload (i' := 0) (n := 1) i28_73 (Or.inr ⟨rfl, by decide⟩) rfl ?_
    obtain ⟨_, eu_4, hf⟩ := x_bind hf
    obtain ⟨h_3, eh_3, hf⟩ := x_bind hf
    refine sh_inv (as := []) (z := (none, h_3)) i28_74 v28_157 (Or.inl ⟨by decide, rfl⟩) m38 rfl (Nat.le_of_ble_eq_true rfl) eu_4 (fn38_call (by omega) eh_3) ?_
    refine sh_goto (t := 84) i28_77 rfl ?_
    exact j28_84_ok hd hf
def j28_43  (o0 : Option Nat) (o1 : Option Nat) (o2 : Option Nat) (x3 : Int32) (x4 : Int32) (x5 : Int32) (s0 : Option Nat) (s1 : Int32) (h : xH) : Option xH := (xpF h s0 3 8 .int (.int s1)).bind fun h_1 => (xgI h_1 o2 0 1).bind fun v_2 => (fn138 v_2 h_1).bind fun r_3 => (if r_3.1 = 0 then (xgI r_3.2 o0 3 8).bind fun v_5 => j28_65 o0 o1 o2 x3 x4 x5 o0 v_5 r_3.2 else j28_65 o0 o1 o2 x3 x4 x5 o0 4 r_3.2)
theorem j28_43_ok {xs : List Int32} {d : Nat} (hd : 8 ≤ d) {o0 : Option Nat} {o1 : Option Nat} {o2 : Option Nat} {x3 : Int32} {x4 : Int32} {x5 : Int32} {s0 : Option Nat} {s1 : Int32} {h : xH} {r : xH} (hf : j28_43 o0 o1 o2 x3 x4 x5 s0 s1 h = some r) : xEv (xTa xs) d 28 (43, [xrv o0, xrv o1, xrv o2, .int x3, .int x4, .int x5], [.int s1, xrv s0], h) (none, r) := by
  unfold j28_43 at hf
  obtain ⟨h_1, eh_1, hf⟩ := x_bind hf
  refine sh_put i28_43 f28_151 (by decide) rfl eh_1 ?_
  refine sh_aload (i' := 0) (n := 1) i28_46 (Or.inr ⟨rfl, by decide⟩) rfl ?_
  refine sh_aload (i' := 2) (n := 1) i28_47 (Or.inr ⟨rfl, by decide⟩) rfl ?_
  obtain ⟨v_2, ev_2, hf⟩ := x_bind hf
  refine sh_getI i28_48 f28_55 ev_2 ?_
  obtain ⟨r_3, er_3, hf⟩ := x_bind hf
  refine ev_sta (as := [.int v_2]) (z := (some (.int r_3.1), r_3.2)) i28_51 v28_68 (Or.inr rfl) m138 rfl (by simp [xcat, xrv_cat, xc_i, xc_j, xc_a, xc_f]) (fn138_call (by omega) er_3) ?_
  refine ev_if (t := 61) i28_54 rfl (fun c_4 => ?_) (fun c_4 => ?_)
  · replace hf := x_pos (show r_3.1 = 0 from c_4) hf
    refine sh_aload (i' := 0) (n := 1) i28_61 (Or.inr ⟨rfl, by decide⟩) rfl ?_
    obtain ⟨v_5, ev_5, hf⟩ := x_bind hf
    refine sh_getI i28_62 f28_151 ev_5 ?_
    exact j28_65_ok hd hf
  · replace hf := x_neg (show ¬ r_3.1 = 0 from c_4) hf
    refine ev_do i28_57 rfl ?_
    refine sh_goto (t := 65) i28_58 rfl ?_
    exact j28_65_ok hd hf
def j28_19  (o0 : Option Nat) (o1 : Option Nat) (o2 : Option Nat) (x3 : Int32) (s0 : Int32) (h : xH) : Option xH := (xgI h o2 0 3).bind fun v_1 => (if s0 = 0 then j28_43 o0 o1 o2 x3 s0 (2 * v_1) o0 0 h else j28_43 o0 o1 o2 x3 s0 (2 * v_1) o0 ((2 * v_1) + 2) h)
theorem j28_19_ok {xs : List Int32} {d : Nat} (hd : 8 ≤ d) {u4 : Value} {u5 : Value} {o0 : Option Nat} {o1 : Option Nat} {o2 : Option Nat} {x3 : Int32} {s0 : Int32} {h : xH} {r : xH} (hu4 : u4.category = 1) (hu5 : u5.category = 1) (hf : j28_19 o0 o1 o2 x3 s0 h = some r) : xEv (xTa xs) d 28 (19, [xrv o0, xrv o1, xrv o2, .int x3, u4, u5], [.int s0], h) (none, r) := by
  unfold j28_19 at hf
  refine sh_istore (i' := 4) (n := 2) i28_19 (Or.inl rfl) (xokst_of (Nat.le_of_ble_eq_true rfl) rfl) ?_
  refine ev_do i28_21 rfl ?_
  refine sh_aload (i' := 2) (n := 1) i28_22 (Or.inr ⟨rfl, by decide⟩) rfl ?_
  obtain ⟨v_1, ev_1, hf⟩ := x_bind hf
  refine sh_getI i28_23 f28_148 ev_1 ?_
  refine ev_do i28_26 rfl ?_
  refine sh_istore (i' := 5) (n := 2) i28_27 (Or.inl rfl) (xokst_of (Nat.le_of_ble_eq_true rfl) rfl) ?_
  refine sh_aload (i' := 0) (n := 1) i28_29 (Or.inr ⟨rfl, by decide⟩) rfl ?_
  refine ev_do i28_30 rfl ?_
  refine ev_if (t := 42) i28_32 rfl (fun c_2 => ?_) (fun c_2 => ?_)
  · replace hf := x_pos (show s0 = 0 from c_2) hf
    refine ev_do i28_42 rfl ?_
    exact j28_43_ok hd hf
  · replace hf := x_neg (show ¬ s0 = 0 from c_2) hf
    refine ev_do i28_35 rfl ?_
    refine ev_do i28_37 rfl ?_
    refine ev_do i28_38 rfl ?_
    refine sh_goto (t := 43) i28_39 rfl ?_
    exact j28_43_ok hd hf
def fn28 (o0 : Option Nat) (o1 : Option Nat) (o2 : Option Nat) (x3 : Int32) (h : xH) : Option xH := (xcv h o0 3).bind fun _ => (fn29 o0 o1 o2 h).bind fun h_1 => (xgI h_1 o2 0 1).bind fun v_2 => (if v_2 = 1 then j28_19 o0 o1 o2 x3 1 h_1 else j28_19 o0 o1 o2 x3 0 h_1)
theorem fn28_call {xs : List Int32} {d : Nat} (hd : 9 ≤ d) {o0 : Option Nat} {o1 : Option Nat} {o2 : Option Nat} {x3 : Int32} {h : xH} {r : xH} (hf : fn28 o0 o1 o2 x3 h = some r) : xCall (xTa xs) d 28 [xrv o0, xrv o1, xrv o2, .int x3] h (none, r) := by
  obtain ⟨d, rfl⟩ : ∃ d2, d = d2 + 1 := ⟨d - 1, by omega⟩
  replace hd : 8 ≤ d := by omega
  refine call_of2 (fl := [xrv o0, xrv o1, xrv o2, .int x3]) (Ls := [xrv o0, xrv o1, xrv o2, .int x3, .float 0, .float 0]) m28 (by simp [xfl, xrv_cat, xc_i, xc_j, xc_a, xc_f]) (Nat.le_of_ble_eq_true rfl) rfl ?_
  unfold fn28 at hf
  refine sh_aload (i' := 0) (n := 1) i28_0 (Or.inr ⟨rfl, by decide⟩) rfl ?_
  refine sh_aload (i' := 1) (n := 1) i28_1 (Or.inr ⟨rfl, by decide⟩) rfl ?_
  refine sh_aload (i' := 2) (n := 1) i28_2 (Or.inr ⟨rfl, by decide⟩) rfl ?_
  obtain ⟨_, eu_4, hf⟩ := x_bind hf
  obtain ⟨h_1, eh_1, hf⟩ := x_bind hf
  refine sh_inv (as := [xrv o2, xrv o1]) (z := (none, h_1)) i28_3 v28_144 (Or.inl ⟨by decide, rfl⟩) m29 rfl (Nat.le_of_ble_eq_true rfl) eu_4 (fn29_call (by omega) eh_1) ?_
  refine sh_aload (i' := 2) (n := 1) i28_6 (Or.inr ⟨rfl, by decide⟩) rfl ?_
  obtain ⟨v_2, ev_2, hf⟩ := x_bind hf
  refine sh_getI i28_7 f28_55 ev_2 ?_
  refine ev_do i28_10 rfl ?_
  refine ev_icmp (t := 18) i28_11 rfl (fun c_3 => ?_) (fun c_3 => ?_)
  · replace hf := x_neg (show ¬ v_2 = 1 from c_3) hf
    refine ev_do i28_18 rfl ?_
    exact j28_19_ok hd rfl rfl hf
  · replace hf := x_pos (show v_2 = 1 from Decidable.byContradiction (fun h9 => c_3 h9)) hf
    refine ev_do i28_14 rfl ?_
    refine sh_goto (t := 19) i28_15 rfl ?_
    exact j28_19_ok hd rfl rfl hf
end
section
def fn51 (o0 : Option Nat) (h : xH) : Option xH := (xgR h o0 5 0).bind fun a_1 => (xcv h a_1 9).bind fun _ => (fn101 a_1 0 h).bind fun h_2 => (xpF h_2 o0 5 3 .int (.int 0)).bind fun h_3 => (xpF h_3 o0 5 4 .int (.int 0)).bind fun h_4 => (xpF h_4 o0 5 5 .int (.int 0)).bind fun h_5 => (xpF h_5 o0 5 6 .int (.int 0)).bind fun h_6 => (xpF h_6 o0 5 7 .int (.int 0)).bind fun h_7 => (xpF h_7 o0 5 8 .boolean (.int 0)).bind fun h_8 => some h_8
theorem fn51_call {xs : List Int32} {d : Nat} (hd : 3 ≤ d) {o0 : Option Nat} {h : xH} {r : xH} (hf : fn51 o0 h = some r) : xCall (xTa xs) d 51 [xrv o0] h (none, r) := by
  obtain ⟨d, rfl⟩ : ∃ d2, d = d2 + 1 := ⟨d - 1, by omega⟩
  replace hd : 2 ≤ d := by omega
  refine call_of2 (fl := [xrv o0]) (Ls := [xrv o0]) m51 (by simp [xfl, xrv_cat, xc_i, xc_j, xc_a, xc_f]) (Nat.le_of_ble_eq_true rfl) rfl ?_
  unfold fn51 at hf
  refine sh_aload (i' := 0) (n := 1) i51_0 (Or.inr ⟨rfl, by decide⟩) rfl ?_
  obtain ⟨a_1, ea_1, hf⟩ := x_bind hf
  refine sh_getR i51_1 f51_14 ea_1 ?_
  refine ev_do i51_4 rfl ?_
  obtain ⟨_, eu_9, hf⟩ := x_bind hf
  obtain ⟨h_2, eh_2, hf⟩ := x_bind hf
  refine sh_inv (as := [.int 0]) (z := (none, h_2)) i51_5 v51_30 (Or.inl ⟨by decide, rfl⟩) m101 rfl (Nat.le_of_ble_eq_true rfl) eu_9 (fn101_call (by omega) eh_2) ?_
  refine sh_aload (i' := 0) (n := 1) i51_8 (Or.inr ⟨rfl, by decide⟩) rfl ?_
  refine ev_do i51_9 rfl ?_
  obtain ⟨h_3, eh_3, hf⟩ := x_bind hf
  refine sh_put i51_10 f51_33 (by decide) rfl eh_3 ?_
  refine sh_aload (i' := 0) (n := 1) i51_13 (Or.inr ⟨rfl, by decide⟩) rfl ?_
  refine ev_do i51_14 rfl ?_
  obtain ⟨h_4, eh_4, hf⟩ := x_bind hf
  refine sh_put i51_15 f51_37 (by decide) rfl eh_4 ?_
  refine sh_aload (i' := 0) (n := 1) i51_18 (Or.inr ⟨rfl, by decide⟩) rfl ?_
  refine ev_do i51_19 rfl ?_
  obtain ⟨h_5, eh_5, hf⟩ := x_bind hf
  refine sh_put i51_20 f51_40 (by decide) rfl eh_5 ?_
  refine sh_aload (i' := 0) (n := 1) i51_23 (Or.inr ⟨rfl, by decide⟩) rfl ?_
  refine ev_do i51_24 rfl ?_
  obtain ⟨h_6, eh_6, hf⟩ := x_bind hf
  refine sh_put i51_25 f51_43 (by decide) rfl eh_6 ?_
  refine sh_aload (i' := 0) (n := 1) i51_28 (Or.inr ⟨rfl, by decide⟩) rfl ?_
  refine ev_do i51_29 rfl ?_
  obtain ⟨h_7, eh_7, hf⟩ := x_bind hf
  refine sh_put i51_30 f51_46 (by decide) rfl eh_7 ?_
  refine sh_aload (i' := 0) (n := 1) i51_33 (Or.inr ⟨rfl, by decide⟩) rfl ?_
  refine ev_do i51_34 rfl ?_
  obtain ⟨h_8, eh_8, hf⟩ := x_bind hf
  refine sh_put i51_35 f51_49 (by decide) rfl eh_8 ?_
  obtain rfl := Option.some.inj hf
  exact sh_vret i51_38 m51 rfl
end
section
def j24_95  (o0 : Option Nat) (o1 : Option Nat) (o2 : Option Nat) (x3 : Int32) (x4 : Int32) (o5 : Option Nat) (x6 : Int32) (h : xH) : Option xH := (xcv h o0 3).bind fun _ => (fn26 o0 o1 h).bind fun h_1 => some h_1
theorem j24_95_ok {xs : List Int32} {d : Nat} (hd : 9 ≤ d) {u7 : Value} {o0 : Option Nat} {o1 : Option Nat} {o2 : Option Nat} {x3 : Int32} {x4 : Int32} {o5 : Option Nat} {x6 : Int32} {h : xH} {r : xH} (hu7 : u7.category = 1) (hf : j24_95 o0 o1 o2 x3 x4 o5 x6 h = some r) : xEv (xTa xs) d 24 (95, [xrv o0, xrv o1, xrv o2, .int x3, .int x4, xrv o5, .int x6, u7], [], h) (none, r) := by
  unfold j24_95 at hf
  refine sh_aload (i' := 0) (n := 1) i24_95 (Or.inr ⟨rfl, by decide⟩) rfl ?_
  refine sh_aload (i' := 1) (n := 1) i24_96 (Or.inr ⟨rfl, by decide⟩) rfl ?_
  obtain ⟨_, eu_2, hf⟩ := x_bind hf
  obtain ⟨h_1, eh_1, hf⟩ := x_bind hf
  refine sh_inv (as := [xrv o1]) (z := (none, h_1)) i24_97 v24_110 (Or.inl ⟨by decide, rfl⟩) m26 rfl (Nat.le_of_ble_eq_true rfl) eu_2 (fn26_call (by omega) eh_1) ?_
  obtain rfl := Option.some.inj hf
  exact sh_vret i24_100 m24 rfl
def j24_89 (k24 : Option Nat → Option Nat → Option Nat → Int32 → Int32 → Option Nat → Int32 → xH → Option xH) (o0 : Option Nat) (o1 : Option Nat) (o2 : Option Nat) (x3 : Int32) (x4 : Int32) (o5 : Option Nat) (x6 : Int32) (o7 : Option Nat) (h : xH) : Option xH := k24 o0 o1 o2 x3 x4 o5 (x6 + 1) h
theorem j24_89_ok {xs : List Int32} {d : Nat} (hd : 9 ≤ d) {k24 : Option Nat → Option Nat → Option Nat → Int32 → Int32 → Option Nat → Int32 → xH → Option xH} (hk24 : ∀ {u7 : Value} {o0 : Option Nat} {o1 : Option Nat} {o2 : Option Nat} {x3 : Int32} {x4 : Int32} {o5 : Option Nat} {x6 : Int32} {h : xH} {r : xH}, u7.category = 1 → k24 o0 o1 o2 x3 x4 o5 x6 h = some r → xEv (xTa xs) d 24 (24, [xrv o0, xrv o1, xrv o2, .int x3, .int x4, xrv o5, .int x6, u7], [], h) (none, r)) {o0 : Option Nat} {o1 : Option Nat} {o2 : Option Nat} {x3 : Int32} {x4 : Int32} {o5 : Option Nat} {x6 : Int32} {o7 : Option Nat} {h : xH} {r : xH} (hf : j24_89 k24 o0 o1 o2 x3 x4 o5 x6 o7 h = some r) : xEv (xTa xs) d 24 (89, [xrv o0, xrv o1, xrv o2, .int x3, .int x4, xrv o5, .int x6, xrv o7], [], h) (none, r) := by
  unfold j24_89 at hf
  refine sh_inc (i' := 6) i24_89 rfl (xokst_of (Nat.le_of_ble_eq_true rfl) (xrv_cat (o5))) rfl ?_
  refine sh_goto (t := 24) i24_92 rfl ?_
  exact hk24 (xrv_cat (o7)) hf
def j24_76 (k24 : Option Nat → Option Nat → Option Nat → Int32 → Int32 → Option Nat → Int32 → xH → Option xH) (o0 : Option Nat) (o1 : Option Nat) (o2 : Option Nat) (x3 : Int32) (x4 : Int32) (o5 : Option Nat) (x6 : Int32) (o7 : Option Nat) (h : xH) : Option xH := (xcv h o0 3).bind fun _ => (fn28 o0 o1 o7 x4 h).bind fun h_1 => j24_89 k24 o0 o1 o2 x3 x4 o7 x6 o7 h_1
theorem j24_76_ok {xs : List Int32} {d : Nat} (hd : 9 ≤ d) {k24 : Option Nat → Option Nat → Option Nat → Int32 → Int32 → Option Nat → Int32 → xH → Option xH} (hk24 : ∀ {u7 : Value} {o0 : Option Nat} {o1 : Option Nat} {o2 : Option Nat} {x3 : Int32} {x4 : Int32} {o5 : Option Nat} {x6 : Int32} {h : xH} {r : xH}, u7.category = 1 → k24 o0 o1 o2 x3 x4 o5 x6 h = some r → xEv (xTa xs) d 24 (24, [xrv o0, xrv o1, xrv o2, .int x3, .int x4, xrv o5, .int x6, u7], [], h) (none, r)) {o0 : Option Nat} {o1 : Option Nat} {o2 : Option Nat} {x3 : Int32} {x4 : Int32} {o5 : Option Nat} {x6 : Int32} {o7 : Option Nat} {h : xH} {r : xH} (hf : j24_76 k24 o0 o1 o2 x3 x4 o5 x6 o7 h = some r) : xEv (xTa xs) d 24 (76, [xrv o0, xrv o1, xrv o2, .int x3, .int x4, xrv o5, .int x6, xrv o7], [], h) (none, r) := by
  unfold j24_76 at hf
  refine sh_aload (i' := 0) (n := 1) i24_76 (Or.inr ⟨rfl, by decide⟩) rfl ?_
  refine sh_aload (i' := 1) (n := 1) i24_77 (Or.inr ⟨rfl, by decide⟩) rfl ?_
  refine sh_aload (i' := 7) (n := 2) i24_78 (Or.inl rfl) rfl ?_
  refine ev_do i24_80 rfl ?_
  obtain ⟨_, eu_2, hf⟩ := x_bind hf
  obtain ⟨h_1, eh_1, hf⟩ := x_bind hf
  refine sh_inv (as := [.int x4, xrv o7, xrv o1]) (z := (none, h_1)) i24_82 v24_106 (Or.inl ⟨by decide, rfl⟩) m28 rfl (Nat.le_of_ble_eq_true rfl) eu_2 (fn28_call (by omega) eh_1) ?_
  refine sh_aload (i' := 7) (n := 2) i24_85 (Or.inl rfl) rfl ?_
  refine sh_astore (i' := 5) (n := 2) i24_87 (Or.inl rfl) (xokst_of (Nat.le_of_ble_eq_true rfl) rfl) ?_
  exact j24_89_ok hd hk24 hf
def l24_24  : Nat → Option Nat → Option Nat → Option Nat → Int32 → Int32 → Option Nat → Int32 → xH → Option xH
  | 0 => fun _ _ _ _ _ _ _ _ => none
  | n + 1 => fun o0 o1 o2 x3 x4 o5 x6 h => (xgI h o0 3 1).bind fun v_1 => (if v_1 ≤ x6 then j24_95 o0 o1 o2 x3 x4 o5 x6 h else (xgI h o1 5 8).bind fun v_3 => (if v_3 = 0 then (xgR h o0 3 0).bind fun a_5 => (xaR h a_5 x6).bind fun a_6 => (if a_6 = none then j24_89 (l24_24 n) o0 o1 o2 x3 x4 o5 x6 a_6 h else (xgR h a_6 0 0).bind fun a_8 => (if a_8 = none then j24_89 (l24_24 n) o0 o1 o2 x3 x4 o5 x6 a_6 h else (fn25 o5 a_6 h).bind fun r_10 => (if r_10.1 = 0 then j24_76 (l24_24 n) o0 o1 o2 x3 x4 o5 x6 a_6 r_10.2 else (xcv r_10.2 o1 5).bind fun _ => (fn56 o1 r_10.2).bind fun h_12 => j24_76 (l24_24 n) o0 o1 o2 x3 x4 o5 x6 a_6 h_12))) else j24_95 o0 o1 o2 x3 x4 o5 x6 h))
theorem l24_24_ok {xs : List Int32} {d : Nat} (hd : 9 ≤ d) : ∀ (n : Nat) {u7 : Value} {o0 : Option Nat} {o1 : Option Nat} {o2 : Option Nat} {x3 : Int32} {x4 : Int32} {o5 : Option Nat} {x6 : Int32} {h : xH} {r : xH} (hu7 : u7.category = 1), l24_24 n o0 o1 o2 x3 x4 o5 x6 h = some r → xEv (xTa xs) d 24 (24, [xrv o0, xrv o1, xrv o2, .int x3, .int x4, xrv o5, .int x6, u7], [], h) (none, r) := by
  intro n
  induction n with
  | zero => intros; rename_i hf; cases hf
  | succ n ih =>
    intro u7 o0 o1 o2 x3 x4 o5 x6 h r hu7 hf
    replace hf : ((xgI h o0 3 1).bind fun v_1 => (if v_1 ≤ x6 then j24_95 o0 o1 o2 x3 x4 o5 x6 h else (xgI h o1 5 8).bind fun v_3 => (if v_3 = 0 then (xgR h o0 3 0).bind fun a_5 => (xaR h a_5 x6).bind fun a_6 => (if a_6 = none then j24_89 (l24_24 n) o0 o1 o2 x3 x4 o5 x6 a_6 h else (xgR h a_6 0 0).bind fun a_8 => (if a_8 = none then j24_89 (l24_24 n) o0 o1 o2 x3 x4 o5 x6 a_6 h else (fn25 o5 a_6 h).bind fun r_10 => (if r_10.1 = 0 then j24_76 (l24_24 n) o0 o1 o2 x3 x4 o5 x6 a_6 r_10.2 else (xcv r_10.2 o1 5).bind fun _ => (fn56 o1 r_10.2).bind fun h_12 => j24_76 (l24_24 n) o0 o1 o2 x3 x4 o5 x6 a_6 h_12))) else j24_95 o0 o1 o2 x3 x4 o5 x6 h))) = some r := hf
    refine ev_do i24_24 rfl ?_
    refine sh_aload (i' := 0) (n := 1) i24_26 (Or.inr ⟨rfl, by decide⟩) rfl ?_
    obtain ⟨v_1, ev_1, hf⟩ := x_bind hf
    refine sh_getI i24_27 f24_36 ev_1 ?_
    refine ev_icmp (t := 95) i24_30 rfl (fun c_2 => ?_) (fun c_2 => ?_)
    · replace hf := x_pos (show v_1 ≤ x6 from c_2) hf
      exact j24_95_ok hd hu7 hf
    · replace hf := x_neg (show ¬ v_1 ≤ x6 from c_2) hf
      refine sh_aload (i' := 1) (n := 1) i24_33 (Or.inr ⟨rfl, by decide⟩) rfl ?_
      obtain ⟨v_3, ev_3, hf⟩ := x_bind hf
      refine sh_getI i24_34 f24_98 ev_3 ?_
      refine ev_if (t := 95) i24_37 rfl (fun c_4 => ?_) (fun c_4 => ?_)
      · replace hf := x_neg (show ¬ v_3 = 0 from c_4) hf
        exact j24_95_ok hd hu7 hf
      · replace hf := x_pos (show v_3 = 0 from Decidable.byContradiction (fun h9 => c_4 h9)) hf
        refine sh_aload (i' := 0) (n := 1) i24_40 (Or.inr ⟨rfl, by decide⟩) rfl ?_
        obtain ⟨a_5, ea_5, hf⟩ := x_bind hf
        refine sh_getR i24_41 f24_11 ea_5 ?_
        refine ev_do i24_44 rfl ?_
        obtain ⟨a_6, ea_6, hf⟩ := x_bind hf
        refine sh_aldR i24_46 ea_6 ?_
        refine sh_astore (i' := 7) (n := 2) i24_47 (Or.inl rfl) (xokst_of (Nat.le_of_ble_eq_true rfl) rfl) ?_
        refine sh_aload (i' := 7) (n := 2) i24_49 (Or.inl rfl) rfl ?_
        refine sh_null (t := 89) i24_51 rfl (fun c_7 => ?_) (fun c_7 => ?_)
        · replace hf := x_pos c_7 hf
          exact j24_89_ok hd ih hf
        · replace hf := x_neg c_7 hf
          refine sh_aload (i' := 7) (n := 2) i24_54 (Or.inl rfl) rfl ?_
          obtain ⟨a_8, ea_8, hf⟩ := x_bind hf
          refine sh_getR i24_56 f24_76 ea_8 ?_
          refine sh_null (t := 89) i24_59 rfl (fun c_9 => ?_) (fun c_9 => ?_)
          · replace hf := x_pos c_9 hf
            exact j24_89_ok hd ih hf
          · replace hf := x_neg c_9 hf
            refine sh_aload (i' := 5) (n := 2) i24_62 (Or.inl rfl) rfl ?_
            refine sh_aload (i' := 7) (n := 2) i24_64 (Or.inl rfl) rfl ?_
            obtain ⟨r_10, er_10, hf⟩ := x_bind hf
            refine ev_sta (as := [xrv a_6, xrv o5]) (z := (some (.int r_10.1), r_10.2)) i24_66 v24_102 (Or.inl rfl) m25 rfl (Nat.le_of_ble_eq_true rfl) (fn25_call (by omega) er_10) ?_
            refine ev_if (t := 76) i24_69 rfl (fun c_11 => ?_) (fun c_11 => ?_)
            · replace hf := x_pos (show r_10.1 = 0 from c_11) hf
              exact j24_76_ok hd ih hf
            · replace hf := x_neg (show ¬ r_10.1 = 0 from c_11) hf
              refine sh_aload (i' := 1) (n := 1) i24_72 (Or.inr ⟨rfl, by decide⟩) rfl ?_
              obtain ⟨_, eu_13, hf⟩ := x_bind hf
              obtain ⟨h_12, eh_12, hf⟩ := x_bind hf
              refine sh_inv (as := []) (z := (none, h_12)) i24_73 v24_95 (Or.inl ⟨by decide, rfl⟩) m56 rfl (Nat.le_of_ble_eq_true rfl) eu_13 (fn56_call (by omega) eh_12) ?_
              exact j24_76_ok hd ih hf
def fn24 (o0 : Option Nat) (o1 : Option Nat) (o2 : Option Nat) (x3 : Int32) (x4 : Int32) (h : xH) : Option xH := (xpF h o0 3 7 .int (.int x3)).bind fun h_1 => (xcv h_1 o1 5).bind fun _ => (fn51 o1 h_1).bind fun h_2 => (xcv h_2 o1 5).bind fun _ => (fn55 o1 o2 h_2).bind fun h_3 => (xcv h_3 o1 5).bind fun _ => (fn56 o1 h_3).bind fun h_4 => l24_24 xFuel o0 o1 o2 x3 x4 none 0 h_4
theorem fn24_call {xs : List Int32} {d : Nat} (hd : 10 ≤ d) {o0 : Option Nat} {o1 : Option Nat} {o2 : Option Nat} {x3 : Int32} {x4 : Int32} {h : xH} {r : xH} (hf : fn24 o0 o1 o2 x3 x4 h = some r) : xCall (xTa xs) d 24 [xrv o0, xrv o1, xrv o2, .int x3, .int x4] h (none, r) := by
  obtain ⟨d, rfl⟩ : ∃ d2, d = d2 + 1 := ⟨d - 1, by omega⟩
  replace hd : 9 ≤ d := by omega
  refine call_of2 (fl := [xrv o0, xrv o1, xrv o2, .int x3, .int x4]) (Ls := [xrv o0, xrv o1, xrv o2, .int x3, .int x4, .float 0, .float 0, .float 0]) m24 (by simp [xfl, xrv_cat, xc_i, xc_j, xc_a, xc_f]) (Nat.le_of_ble_eq_true rfl) rfl ?_
  unfold fn24 at hf
  refine sh_aload (i' := 0) (n := 1) i24_0 (Or.inr ⟨rfl, by decide⟩) rfl ?_
  refine ev_do i24_1 rfl ?_
  obtain ⟨h_1, eh_1, hf⟩ := x_bind hf
  refine sh_put i24_2 f24_83 (by decide) rfl eh_1 ?_
  refine sh_aload (i' := 1) (n := 1) i24_5 (Or.inr ⟨rfl, by decide⟩) rfl ?_
  obtain ⟨_, eu_7, hf⟩ := x_bind hf
  obtain ⟨h_2, eh_2, hf⟩ := x_bind hf
  refine sh_inv (as := []) (z := (none, h_2)) i24_6 v24_86 (Or.inl ⟨by decide, rfl⟩) m51 rfl (Nat.le_of_ble_eq_true rfl) eu_7 (fn51_call (by omega) eh_2) ?_
  refine sh_aload (i' := 1) (n := 1) i24_9 (Or.inr ⟨rfl, by decide⟩) rfl ?_
  refine sh_aload (i' := 2) (n := 1) i24_10 (Or.inr ⟨rfl, by decide⟩) rfl ?_
  obtain ⟨_, eu_6, hf⟩ := x_bind hf
  obtain ⟨h_3, eh_3, hf⟩ := x_bind hf
  refine sh_inv (as := [xrv o2]) (z := (none, h_3)) i24_11 v24_91 (Or.inl ⟨by decide, rfl⟩) m55 rfl (Nat.le_of_ble_eq_true rfl) eu_6 (fn55_call (by omega) eh_3) ?_
  refine sh_aload (i' := 1) (n := 1) i24_14 (Or.inr ⟨rfl, by decide⟩) rfl ?_
  obtain ⟨_, eu_5, hf⟩ := x_bind hf
  obtain ⟨h_4, eh_4, hf⟩ := x_bind hf
  refine sh_inv (as := []) (z := (none, h_4)) i24_15 v24_95 (Or.inl ⟨by decide, rfl⟩) m56 rfl (Nat.le_of_ble_eq_true rfl) eu_5 (fn56_call (by omega) eh_4) ?_
  refine sh_cnull i24_18 ?_
  refine sh_astore (i' := 5) (n := 2) i24_19 (Or.inl rfl) (xokst_of (Nat.le_of_ble_eq_true rfl) rfl) ?_
  refine ev_do i24_21 rfl ?_
  refine sh_istore (i' := 6) (n := 2) i24_22 (Or.inl rfl) (xokst_of (Nat.le_of_ble_eq_true rfl) (xrv_cat (none))) ?_
  exact l24_24_ok hd xFuel rfl hf
end
section
def fn40 (o0 : Option Nat) (h : xH) : Option xH := (o0).bind fun a_1 => (xnA h 13 (.int 0) 216).bind fun h_2 => (xpF h_2 o0 4 0 (.array .int) (xrv (some h.1))).bind fun h_3 => (xnA h_3 13 (.int 0) 216).bind fun h_4 => (xpF h_4 o0 4 1 (.array .int) (xrv (some h_3.1))).bind fun h_5 => some h_5
theorem fn40_call {xs : List Int32} {d : Nat} (hd : 2 ≤ d) {o0 : Option Nat} {h : xH} {r : xH} (hf : fn40 o0 h = some r) : xCall (xTa xs) d 40 [xrv o0] h (none, r) := by
  obtain ⟨d, rfl⟩ : ∃ d2, d = d2 + 1 := ⟨d - 1, by omega⟩
  replace hd : 1 ≤ d := by omega
  refine call_of2 (fl := [xrv o0]) (Ls := [xrv o0]) m40 (by simp [xfl, xrv_cat, xc_i, xc_j, xc_a, xc_f]) (Nat.le_of_ble_eq_true rfl) rfl ?_
  unfold fn40 at hf
  refine sh_aload (i' := 0) (n := 1) i40_0 (Or.inr ⟨rfl, by decide⟩) rfl ?_
  obtain ⟨a_1, ea_1, hf⟩ := x_bind hf
  refine sh_obj i40_1 v40_3 (Nat.le_of_ble_eq_true rfl) ea_1 ?_
  refine sh_aload (i' := 0) (n := 1) i40_4 (Or.inr ⟨rfl, by decide⟩) rfl ?_
  refine ev_do i40_5 rfl ?_
  obtain ⟨h_2, eh_2, hf⟩ := x_bind hf
  refine sh_newa (tg := 13) (n := 2) (v := (.int 0)) i40_8 (fun _ _ _ => rfl) eh_2 ?_
  obtain ⟨h_3, eh_3, hf⟩ := x_bind hf
  refine sh_put i40_10 f40_9 (by decide) rfl eh_3 ?_
  refine sh_aload (i' := 0) (n := 1) i40_13 (Or.inr ⟨rfl, by decide⟩) rfl ?_
  refine ev_do i40_14 rfl ?_
  obtain ⟨h_4, eh_4, hf⟩ := x_bind hf
  refine sh_newa (tg := 13) (n := 2) (v := (.int 0)) i40_17 (fun _ _ _ => rfl) eh_4 ?_
  obtain ⟨h_5, eh_5, hf⟩ := x_bind hf
  refine sh_put i40_19 f40_15 (by decide) rfl eh_5 ?_
  obtain rfl := Option.some.inj hf
  exact sh_vret i40_22 m40 rfl
end
section
def j41_54  (o0 : Option Nat) (x1 : Int32) (x2 : Int32) (h : xH) : Option xH := some h
theorem j41_54_ok {xs : List Int32} {d : Nat} (hd : 1 ≤ d) {o0 : Option Nat} {x1 : Int32} {x2 : Int32} {h : xH} {r : xH} (hf : j41_54 o0 x1 x2 h = some r) : xEv (xTa xs) d 41 (54, [xrv o0, .int x1, .int x2], [], h) (none, r) := by
  unfold j41_54 at hf
  obtain rfl := Option.some.inj hf
  exact sh_vret i41_54 m41 rfl
def fn41 (o0 : Option Nat) (x1 : Int32) (x2 : Int32) (h : xH) : Option xH := (xgI h o0 4 2).bind fun v_1 => (xgR h o0 4 0).bind fun a_2 => (xaN h a_2).bind fun v_3 => (if v_3 ≤ v_1 then j41_54 o0 x1 x2 h else (xgI h o0 4 2).bind fun v_5 => (xgR h o0 4 1).bind fun a_6 => (xaN h a_6).bind fun v_7 => (if v_7 ≤ v_5 then j41_54 o0 x1 x2 h else (xgR h o0 4 0).bind fun a_9 => (xgI h o0 4 2).bind fun v_10 => (xaS h 13 (fun x => x) a_9 v_10 x1).bind fun h_11 => (xgR h_11 o0 4 1).bind fun a_12 => (xgI h_11 o0 4 2).bind fun v_13 => (xaS h_11 13 (fun x => x) a_12 v_13 x2).bind fun h_14 => (xgI h_14 o0 4 2).bind fun v_15 => (xpF h_14 o0 4 2 .int (.int (v_15 + 1))).bind fun h_16 => j41_54 o0 x1 x2 h_16))
theorem fn41_call {xs : List Int32} {d : Nat} (hd : 2 ≤ d) {o0 : Option Nat} {x1 : Int32} {x2 : Int32} {h : xH} {r : xH} (hf : fn41 o0 x1 x2 h = some r) : xCall (xTa xs) d 41 [xrv o0, .int x1, .int x2] h (none, r) := by
  obtain ⟨d, rfl⟩ : ∃ d2, d = d2 + 1 := ⟨d - 1, by omega⟩
  replace hd : 1 ≤ d := by omega
  refine call_of2 (fl := [xrv o0, .int x1, .int x2]) (Ls := [xrv o0, .int x1, .int x2]) m41 (by simp [xfl, xrv_cat, xc_i, xc_j, xc_a, xc_f]) (Nat.le_of_ble_eq_true rfl) rfl ?_
  unfold fn41 at hf
  refine sh_aload (i' := 0) (n := 1) i41_0 (Or.inr ⟨rfl, by decide⟩) rfl ?_
  obtain ⟨v_1, ev_1, hf⟩ := x_bind hf
  refine sh_getI i41_1 f41_18 ev_1 ?_
  refine sh_aload (i' := 0) (n := 1) i41_4 (Or.inr ⟨rfl, by decide⟩) rfl ?_
  obtain ⟨a_2, ea_2, hf⟩ := x_bind hf
  refine sh_getR i41_5 f41_9 ea_2 ?_
  obtain ⟨v_3, ev_3, hf⟩ := x_bind hf
  refine sh_len i41_8 ev_3 ?_
  refine ev_icmp (t := 54) i41_9 rfl (fun c_4 => ?_) (fun c_4 => ?_)
  · replace hf := x_pos (show v_3 ≤ v_1 from c_4) hf
    exact j41_54_ok hd hf
  · replace hf := x_neg (show ¬ v_3 ≤ v_1 from c_4) hf
    refine sh_aload (i' := 0) (n := 1) i41_12 (Or.inr ⟨rfl, by decide⟩) rfl ?_
    obtain ⟨v_5, ev_5, hf⟩ := x_bind hf
    refine sh_getI i41_13 f41_18 ev_5 ?_
    refine sh_aload (i' := 0) (n := 1) i41_16 (Or.inr ⟨rfl, by decide⟩) rfl ?_
    obtain ⟨a_6, ea_6, hf⟩ := x_bind hf
    refine sh_getR i41_17 f41_15 ea_6 ?_
    obtain ⟨v_7, ev_7, hf⟩ := x_bind hf
    refine sh_len i41_20 ev_7 ?_
    refine ev_icmp (t := 54) i41_21 rfl (fun c_8 => ?_) (fun c_8 => ?_)
    · replace hf := x_pos (show v_7 ≤ v_5 from c_8) hf
      exact j41_54_ok hd hf
    · replace hf := x_neg (show ¬ v_7 ≤ v_5 from c_8) hf
      refine sh_aload (i' := 0) (n := 1) i41_24 (Or.inr ⟨rfl, by decide⟩) rfl ?_
      obtain ⟨a_9, ea_9, hf⟩ := x_bind hf
      refine sh_getR i41_25 f41_9 ea_9 ?_
      refine sh_aload (i' := 0) (n := 1) i41_28 (Or.inr ⟨rfl, by decide⟩) rfl ?_
      obtain ⟨v_10, ev_10, hf⟩ := x_bind hf
      refine sh_getI i41_29 f41_18 ev_10 ?_
      refine ev_do i41_32 rfl ?_
      obtain ⟨h_11, eh_11, hf⟩ := x_bind hf
      refine sh_ast (tg := 13) i41_33 (Or.inl ⟨rfl, rfl, rfl⟩) eh_11 ?_
      refine sh_aload (i' := 0) (n := 1) i41_34 (Or.inr ⟨rfl, by decide⟩) rfl ?_
      obtain ⟨a_12, ea_12, hf⟩ := x_bind hf
      refine sh_getR i41_35 f41_15 ea_12 ?_
      refine sh_aload (i' := 0) (n := 1) i41_38 (Or.inr ⟨rfl, by decide⟩) rfl ?_
      obtain ⟨v_13, ev_13, hf⟩ := x_bind hf
      refine sh_getI i41_39 f41_18 ev_13 ?_
      refine ev_do i41_42 rfl ?_
      obtain ⟨h_14, eh_14, hf⟩ := x_bind hf
      refine sh_ast (tg := 13) i41_43 (Or.inl ⟨rfl, rfl, rfl⟩) eh_14 ?_
      refine sh_aload (i' := 0) (n := 1) i41_44 (Or.inr ⟨rfl, by decide⟩) rfl ?_
      refine sh_dup i41_45 (xrv_cat (o0)) ?_
      obtain ⟨v_15, ev_15, hf⟩ := x_bind hf
      refine sh_getI i41_46 f41_18 ev_15 ?_
      refine ev_do i41_49 rfl ?_
      refine ev_do i41_50 rfl ?_
      obtain ⟨h_16, eh_16, hf⟩ := x_bind hf
      refine sh_put i41_51 f41_18 (by decide) rfl eh_16 ?_
      exact j41_54_ok hd hf
end
