section
def j200_25  (o0 : Option Nat) (x1 : Int32) (h : xH) : Option xH := (xcv h o0 11).bind fun _ => (fn201 o0 x1 h).bind fun h_1 => some h_1
theorem j200_25_ok {xs : List Int32} {d : Nat} (hd : 3 ≤ d) {o0 : Option Nat} {x1 : Int32} {h : xH} {r : xH} (hf : j200_25 o0 x1 h = some r) : xEv (xTa xs) d 200 (25, [xrv o0, .int x1], [], h) (none, r) := by
  unfold j200_25 at hf
  refine sh_aload (i' := 0) (n := 1) i200_25 (Or.inr ⟨rfl, by decide⟩) rfl ?_
  refine ev_do i200_26 rfl ?_
  obtain ⟨_, eu_2, hf⟩ := x_bind hf
  obtain ⟨h_1, eh_1, hf⟩ := x_bind hf
  refine sh_inv (as := [.int x1]) (z := (none, h_1)) i200_27 v200_374 (Or.inl ⟨by decide, rfl⟩) m201 rfl (Nat.le_of_ble_eq_true rfl) eu_2 (fn201_call (by omega) eh_1) ?_
  obtain rfl := Option.some.inj hf
  exact sh_vret i200_30 m200 rfl
def fn200 (o0 : Option Nat) (x1 : Int32) (h : xH) : Option xH := (xgR h o0 11 3).bind fun a_1 => (xaI h 14 a_1 x1).bind fun v_2 => (if v_2 = 0 then (xgR h o0 11 4).bind fun a_4 => (xaI h 13 a_4 x1).bind fun v_5 => (xcv h o0 11).bind fun _ => (fn201 o0 v_5 h).bind fun h_6 => (xcv h_6 o0 11).bind fun _ => (fn195 o0 46 h_6).bind fun h_7 => j200_25 o0 x1 h_7 else j200_25 o0 x1 h)
theorem fn200_call {xs : List Int32} {d : Nat} (hd : 4 ≤ d) {o0 : Option Nat} {x1 : Int32} {h : xH} {r : xH} (hf : fn200 o0 x1 h = some r) : xCall (xTa xs) d 200 [xrv o0, .int x1] h (none, r) := by
  obtain ⟨d, rfl⟩ : ∃ d2, d = d2 + 1 := ⟨d - 1, by omega⟩
  replace hd : 3 ≤ d := by omega
  refine call_of2 (fl := [xrv o0, .int x1]) (Ls := [xrv o0, .int x1]) m200 (by simp [xfl, xrv_cat, xc_i, xc_j, xc_a, xc_f]) (Nat.le_of_ble_eq_true rfl) rfl ?_
  unfold fn200 at hf
  refine sh_aload (i' := 0) (n := 1) i200_0 (Or.inr ⟨rfl, by decide⟩) rfl ?_
  obtain ⟨a_1, ea_1, hf⟩ := x_bind hf
  refine sh_getR i200_1 f200_13 ea_1 ?_
  refine ev_do i200_4 rfl ?_
  obtain ⟨v_2, ev_2, hf⟩ := x_bind hf
  refine sh_aldI (tg := 14) i200_5 (Or.inr (Or.inr ⟨rfl, rfl⟩)) ev_2 ?_
  refine ev_if (t := 25) i200_6 rfl (fun c_3 => ?_) (fun c_3 => ?_)
  · replace hf := x_neg (show ¬ v_2 = 0 from c_3) hf
    exact j200_25_ok hd hf
  · replace hf := x_pos (show v_2 = 0 from Decidable.byContradiction (fun h9 => c_3 h9)) hf
    refine sh_aload (i' := 0) (n := 1) i200_9 (Or.inr ⟨rfl, by decide⟩) rfl ?_
    refine sh_aload (i' := 0) (n := 1) i200_10 (Or.inr ⟨rfl, by decide⟩) rfl ?_
    obtain ⟨a_4, ea_4, hf⟩ := x_bind hf
    refine sh_getR i200_11 f200_17 ea_4 ?_
    refine ev_do i200_14 rfl ?_
    obtain ⟨v_5, ev_5, hf⟩ := x_bind hf
    refine sh_aldI (tg := 13) i200_15 (Or.inl ⟨rfl, rfl⟩) ev_5 ?_
    obtain ⟨_, eu_9, hf⟩ := x_bind hf
    obtain ⟨h_6, eh_6, hf⟩ := x_bind hf
    refine sh_inv (as := [.int v_5]) (z := (none, h_6)) i200_16 v200_374 (Or.inl ⟨by decide, rfl⟩) m201 rfl (Nat.le_of_ble_eq_true rfl) eu_9 (fn201_call (by omega) eh_6) ?_
    refine sh_aload (i' := 0) (n := 1) i200_19 (Or.inr ⟨rfl, by decide⟩) rfl ?_
    refine ev_do i200_20 rfl ?_
    obtain ⟨_, eu_8, hf⟩ := x_bind hf
    obtain ⟨h_7, eh_7, hf⟩ := x_bind hf
    refine sh_inv (as := [.int 46]) (z := (none, h_7)) i200_22 v200_359 (Or.inl ⟨by decide, rfl⟩) m195 rfl (Nat.le_of_ble_eq_true rfl) eu_8 (fn195_call (by omega) eh_7) ?_
    exact j200_25_ok hd hf
end
section
def fn202 (o0 : Option Nat) (h : xH) : Option xH := (xgR h o0 11 62).bind fun a_1 => (xgI h o0 11 63).bind fun v_2 => (xgI h o0 11 61).bind fun v_3 => (xaS h 13 (fun x => x) a_1 v_2 v_3).bind fun h_4 => (xgI h_4 o0 11 63).bind fun v_5 => (xpF h_4 o0 11 63 .int (.int (v_5 + 1))).bind fun h_6 => some h_6
theorem fn202_call {xs : List Int32} {d : Nat} (hd : 2 ≤ d) {o0 : Option Nat} {h : xH} {r : xH} (hf : fn202 o0 h = some r) : xCall (xTa xs) d 202 [xrv o0] h (none, r) := by
  obtain ⟨d, rfl⟩ : ∃ d2, d = d2 + 1 := ⟨d - 1, by omega⟩
  replace hd : 1 ≤ d := by omega
  refine call_of2 (fl := [xrv o0]) (Ls := [xrv o0]) m202 (by simp [xfl, xrv_cat, xc_i, xc_j, xc_a, xc_f]) (Nat.le_of_ble_eq_true rfl) rfl ?_
  unfold fn202 at hf
  refine sh_aload (i' := 0) (n := 1) i202_0 (Or.inr ⟨rfl, by decide⟩) rfl ?_
  obtain ⟨a_1, ea_1, hf⟩ := x_bind hf
  refine sh_getR i202_1 f202_119 ea_1 ?_
  refine sh_aload (i' := 0) (n := 1) i202_4 (Or.inr ⟨rfl, by decide⟩) rfl ?_
  obtain ⟨v_2, ev_2, hf⟩ := x_bind hf
  refine sh_getI i202_5 f202_377 ev_2 ?_
  refine sh_aload (i' := 0) (n := 1) i202_8 (Or.inr ⟨rfl, by decide⟩) rfl ?_
  obtain ⟨v_3, ev_3, hf⟩ := x_bind hf
  refine sh_getI i202_9 f202_380 ev_3 ?_
  obtain ⟨h_4, eh_4, hf⟩ := x_bind hf
  refine sh_ast (tg := 13) i202_12 (Or.inl ⟨rfl, rfl, rfl⟩) eh_4 ?_
  refine sh_aload (i' := 0) (n := 1) i202_13 (Or.inr ⟨rfl, by decide⟩) rfl ?_
  refine sh_dup i202_14 (xrv_cat (o0)) ?_
  obtain ⟨v_5, ev_5, hf⟩ := x_bind hf
  refine sh_getI i202_15 f202_377 ev_5 ?_
  refine ev_do i202_18 rfl ?_
  refine ev_do i202_19 rfl ?_
  obtain ⟨h_6, eh_6, hf⟩ := x_bind hf
  refine sh_put i202_20 f202_377 (by decide) rfl eh_6 ?_
  obtain rfl := Option.some.inj hf
  exact sh_vret i202_23 m202 rfl
end
section
def fn203 (o0 : Option Nat) (x1 : Int32) (h : xH) : Option xH := (xgR h o0 11 60).bind fun a_1 => (xgI h o0 11 61).bind fun v_2 => (xaS h 13 (fun x => x) a_1 v_2 x1).bind fun h_3 => (xgI h_3 o0 11 61).bind fun v_4 => (xpF h_3 o0 11 61 .int (.int (v_4 + 1))).bind fun h_5 => some h_5
theorem fn203_call {xs : List Int32} {d : Nat} (hd : 2 ≤ d) {o0 : Option Nat} {x1 : Int32} {h : xH} {r : xH} (hf : fn203 o0 x1 h = some r) : xCall (xTa xs) d 203 [xrv o0, .int x1] h (none, r) := by
  obtain ⟨d, rfl⟩ : ∃ d2, d = d2 + 1 := ⟨d - 1, by omega⟩
  replace hd : 1 ≤ d := by omega
  refine call_of2 (fl := [xrv o0, .int x1]) (Ls := [xrv o0, .int x1]) m203 (by simp [xfl, xrv_cat, xc_i, xc_j, xc_a, xc_f]) (Nat.le_of_ble_eq_true rfl) rfl ?_
  unfold fn203 at hf
  refine sh_aload (i' := 0) (n := 1) i203_0 (Or.inr ⟨rfl, by decide⟩) rfl ?_
  obtain ⟨a_1, ea_1, hf⟩ := x_bind hf
  refine sh_getR i203_1 f203_116 ea_1 ?_
  refine sh_aload (i' := 0) (n := 1) i203_4 (Or.inr ⟨rfl, by decide⟩) rfl ?_
  obtain ⟨v_2, ev_2, hf⟩ := x_bind hf
  refine sh_getI i203_5 f203_380 ev_2 ?_
  refine ev_do i203_8 rfl ?_
  obtain ⟨h_3, eh_3, hf⟩ := x_bind hf
  refine sh_ast (tg := 13) i203_9 (Or.inl ⟨rfl, rfl, rfl⟩) eh_3 ?_
  refine sh_aload (i' := 0) (n := 1) i203_10 (Or.inr ⟨rfl, by decide⟩) rfl ?_
  refine sh_dup i203_11 (xrv_cat (o0)) ?_
  obtain ⟨v_4, ev_4, hf⟩ := x_bind hf
  refine sh_getI i203_12 f203_380 ev_4 ?_
  refine ev_do i203_15 rfl ?_
  refine ev_do i203_16 rfl ?_
  obtain ⟨h_5, eh_5, hf⟩ := x_bind hf
  refine sh_put i203_17 f203_380 (by decide) rfl eh_5 ?_
  obtain rfl := Option.some.inj hf
  exact sh_vret i203_20 m203 rfl
end
section
def l204_3  : Nat → Option Nat → Int32 → Int32 → Int32 → Int32 → xH → Option xH
  | 0 => fun _ _ _ _ _ _ => none
  | n + 1 => fun o0 x1 x2 x3 x4 h => (if x3 ≤ x4 then some h else (xgR h o0 11 12).bind fun a_2 => (xaI h 13 a_2 (((600 * x1) + x2) + x4)).bind fun v_3 => (xcv h o0 11).bind fun _ => (fn203 o0 v_3 h).bind fun h_4 => l204_3 n o0 x1 x2 x3 (x4 + 1) h_4)
theorem l204_3_ok {xs : List Int32} {d : Nat} (hd : 2 ≤ d) : ∀ (n : Nat) {o0 : Option Nat} {x1 : Int32} {x2 : Int32} {x3 : Int32} {x4 : Int32} {h : xH} {r : xH}, l204_3 n o0 x1 x2 x3 x4 h = some r → xEv (xTa xs) d 204 (3, [xrv o0, .int x1, .int x2, .int x3, .int x4], [], h) (none, r) := by
  intro n
  induction n with
  | zero => intros; rename_i hf; cases hf
  | succ n ih =>
    intro o0 x1 x2 x3 x4 h r hf
    replace hf : ((if x3 ≤ x4 then some h else (xgR h o0 11 12).bind fun a_2 => (xaI h 13 a_2 (((600 * x1) + x2) + x4)).bind fun v_3 => (xcv h o0 11).bind fun _ => (fn203 o0 v_3 h).bind fun h_4 => l204_3 n o0 x1 x2 x3 (x4 + 1) h_4)) = some r := hf
    refine ev_do i204_3 rfl ?_
    refine ev_do i204_5 rfl ?_
    refine ev_icmp (t := 34) i204_6 rfl (fun c_1 => ?_) (fun c_1 => ?_)
    · replace hf := x_pos (show x3 ≤ x4 from c_1) hf
      obtain rfl := Option.some.inj hf
      exact sh_vret i204_34 m204 rfl
    · replace hf := x_neg (show ¬ x3 ≤ x4 from c_1) hf
      refine sh_aload (i' := 0) (n := 1) i204_9 (Or.inr ⟨rfl, by decide⟩) rfl ?_
      refine sh_aload (i' := 0) (n := 1) i204_10 (Or.inr ⟨rfl, by decide⟩) rfl ?_
      obtain ⟨a_2, ea_2, hf⟩ := x_bind hf
      refine sh_getR i204_11 f204_41 ea_2 ?_
      refine ev_do i204_14 rfl ?_
      refine ev_do i204_17 rfl ?_
      refine ev_do i204_18 rfl ?_
      refine ev_do i204_19 rfl ?_
      refine ev_do i204_20 rfl ?_
      refine ev_do i204_21 rfl ?_
      refine ev_do i204_23 rfl ?_
      obtain ⟨v_3, ev_3, hf⟩ := x_bind hf
      refine sh_aldI (tg := 13) i204_24 (Or.inl ⟨rfl, rfl⟩) ev_3 ?_
      obtain ⟨_, eu_5, hf⟩ := x_bind hf
      obtain ⟨h_4, eh_4, hf⟩ := x_bind hf
      refine sh_inv (as := [.int v_3]) (z := (none, h_4)) i204_25 v204_383 (Or.inl ⟨by decide, rfl⟩) m203 rfl (Nat.le_of_ble_eq_true rfl) eu_5 (fn203_call (by omega) eh_4) ?_
      refine sh_inc (i' := 4) i204_28 rfl (xokst_of (Nat.le_of_ble_eq_true rfl) rfl) rfl ?_
      refine sh_goto (t := 3) i204_31 rfl ?_
      exact ih hf
def fn204 (o0 : Option Nat) (x1 : Int32) (x2 : Int32) (x3 : Int32) (h : xH) : Option xH := l204_3 xFuel o0 x1 x2 x3 0 h
theorem fn204_call {xs : List Int32} {d : Nat} (hd : 3 ≤ d) {o0 : Option Nat} {x1 : Int32} {x2 : Int32} {x3 : Int32} {h : xH} {r : xH} (hf : fn204 o0 x1 x2 x3 h = some r) : xCall (xTa xs) d 204 [xrv o0, .int x1, .int x2, .int x3] h (none, r) := by
  obtain ⟨d, rfl⟩ : ∃ d2, d = d2 + 1 := ⟨d - 1, by omega⟩
  replace hd : 2 ≤ d := by omega
  refine call_of2 (fl := [xrv o0, .int x1, .int x2, .int x3]) (Ls := [xrv o0, .int x1, .int x2, .int x3, .float 0]) m204 (by simp [xfl, xrv_cat, xc_i, xc_j, xc_a, xc_f]) (Nat.le_of_ble_eq_true rfl) rfl ?_
  unfold fn204 at hf
  refine ev_do i204_0 rfl ?_
  refine sh_istore (i' := 4) (n := 2) i204_1 (Or.inl rfl) (xokst_of (Nat.le_of_ble_eq_true rfl) rfl) ?_
  exact l204_3_ok hd xFuel hf
end
section
def j205_28 (k3 : Option Nat → Int64 → Int32 → xH → Option xH) (o0 : Option Nat) (w1 : Int64) (x3 : Int32) (x4 : Int32) (h : xH) : Option xH := k3 o0 w1 (x3 + (-8)) h
theorem j205_28_ok {xs : List Int32} {d : Nat} (hd : 2 ≤ d) {k3 : Option Nat → Int64 → Int32 → xH → Option xH} (hk3 : ∀ {u4 : Value} {o0 : Option Nat} {w1 : Int64} {x3 : Int32} {h : xH} {r : xH}, u4.category = 1 → k3 o0 w1 x3 h = some r → xEv (xTa xs) d 205 (3, [xrv o0, .long w1, .float 0, .int x3, u4], [], h) (none, r)) {o0 : Option Nat} {w1 : Int64} {x3 : Int32} {x4 : Int32} {h : xH} {r : xH} (hf : j205_28 k3 o0 w1 x3 x4 h = some r) : xEv (xTa xs) d 205 (28, [xrv o0, .long w1, .float 0, .int x3, .int x4], [], h) (none, r) := by
  unfold j205_28 at hf
  refine sh_inc (i' := 3) i205_28 rfl (xokst_of (Nat.le_of_ble_eq_true rfl) rfl) rfl ?_
  refine sh_goto (t := 3) i205_31 rfl ?_
  exact hk3 rfl hf
def l205_3  : Nat → Option Nat → Int64 → Int32 → xH → Option xH
  | 0 => fun _ _ _ _ => none
  | n + 1 => fun o0 w1 x3 h => (if x3 < 0 then some h else (if (((w1 >>> (x3.toInt64 &&& 63)) &&& 255).toInt32) ≤ 0 then j205_28 (l205_3 n) o0 w1 x3 (((w1 >>> (x3.toInt64 &&& 63)) &&& 255).toInt32) h else (xcv h o0 11).bind fun _ => (fn203 o0 (((w1 >>> (x3.toInt64 &&& 63)) &&& 255).toInt32) h).bind fun h_3 => j205_28 (l205_3 n) o0 w1 x3 (((w1 >>> (x3.toInt64 &&& 63)) &&& 255).toInt32) h_3))
theorem l205_3_ok {xs : List Int32} {d : Nat} (hd : 2 ≤ d) : ∀ (n : Nat) {u4 : Value} {o0 : Option Nat} {w1 : Int64} {x3 : Int32} {h : xH} {r : xH} (hu4 : u4.category = 1), l205_3 n o0 w1 x3 h = some r → xEv (xTa xs) d 205 (3, [xrv o0, .long w1, .float 0, .int x3, u4], [], h) (none, r) := by
  intro n
  induction n with
  | zero => intros; rename_i hf; cases hf
  | succ n ih =>
    intro u4 o0 w1 x3 h r hu4 hf
    replace hf : ((if x3 < 0 then some h else (if (((w1 >>> (x3.toInt64 &&& 63)) &&& 255).toInt32) ≤ 0 then j205_28 (l205_3 n) o0 w1 x3 (((w1 >>> (x3.toInt64 &&& 63)) &&& 255).toInt32) h else (xcv h o0 11).bind fun _ => (fn203 o0 (((w1 >>> (x3.toInt64 &&& 63)) &&& 255).toInt32) h).bind fun h_3 => j205_28 (l205_3 n) o0 w1 x3 (((w1 >>> (x3.toInt64 &&& 63)) &&& 255).toInt32) h_3))) = some r := hf
    refine ev_do i205_3 rfl ?_
    refine ev_if (t := 34) i205_4 rfl (fun c_1 => ?_) (fun c_1 => ?_)
    · replace hf := x_pos (show x3 < 0 from c_1) hf
      obtain rfl := Option.some.inj hf
      exact sh_vret i205_34 m205 rfl
    · replace hf := x_neg (show ¬ x3 < 0 from c_1) hf
      refine ev_do i205_7 rfl ?_
      refine ev_do i205_8 rfl ?_
      refine ev_do i205_9 rfl ?_
      refine ev_do i205_10 (show xpush? 3 ((xtJ (xTa xs) 205 230).map .long) 10 _ _ _ = _ from by rw [w205_230]; rfl) ?_
      refine ev_do i205_13 rfl ?_
      refine ev_do i205_14 rfl ?_
      refine sh_istore (i' := 4) (n := 2) i205_15 (Or.inl rfl) (xokst_of (Nat.le_of_ble_eq_true rfl) rfl) ?_
      refine ev_do i205_17 rfl ?_
      refine ev_if (t := 28) i205_19 rfl (fun c_2 => ?_) (fun c_2 => ?_)
      · replace hf := x_pos (show (((w1 >>> (x3.toInt64 &&& 63)) &&& 255).toInt32) ≤ 0 from c_2) hf
        exact j205_28_ok hd ih hf
      · replace hf := x_neg (show ¬ (((w1 >>> (x3.toInt64 &&& 63)) &&& 255).toInt32) ≤ 0 from c_2) hf
        refine sh_aload (i' := 0) (n := 1) i205_22 (Or.inr ⟨rfl, by decide⟩) rfl ?_
        refine ev_do i205_23 rfl ?_
        obtain ⟨_, eu_4, hf⟩ := x_bind hf
        obtain ⟨h_3, eh_3, hf⟩ := x_bind hf
        refine sh_inv (as := [.int (((w1 >>> (x3.toInt64 &&& 63)) &&& 255).toInt32)]) (z := (none, h_3)) i205_25 v205_383 (Or.inl ⟨by decide, rfl⟩) m203 rfl (Nat.le_of_ble_eq_true rfl) eu_4 (fn203_call (by omega) eh_3) ?_
        exact j205_28_ok hd ih hf
def fn205 (o0 : Option Nat) (w1 : Int64) (h : xH) : Option xH := l205_3 xFuel o0 w1 40 h
theorem fn205_call {xs : List Int32} {d : Nat} (hd : 3 ≤ d) {o0 : Option Nat} {w1 : Int64} {h : xH} {r : xH} (hf : fn205 o0 w1 h = some r) : xCall (xTa xs) d 205 [xrv o0, .long w1] h (none, r) := by
  obtain ⟨d, rfl⟩ : ∃ d2, d = d2 + 1 := ⟨d - 1, by omega⟩
  replace hd : 2 ≤ d := by omega
  refine call_of2 (fl := [xrv o0, .long w1, .float 0]) (Ls := [xrv o0, .long w1, .float 0, .float 0, .float 0]) m205 (by simp [xfl, xrv_cat, xc_i, xc_j, xc_a, xc_f]) (Nat.le_of_ble_eq_true rfl) rfl ?_
  unfold fn205 at hf
  refine ev_do i205_0 rfl ?_
  refine sh_istore (i' := 3) (n := 1) i205_2 (Or.inr ⟨rfl, by decide⟩) (xokst_of (Nat.le_of_ble_eq_true rfl) rfl) ?_
  exact l205_3_ok hd xFuel rfl hf
end
section
def j206_105  (o0 : Option Nat) (x1 : Int32) (h : xH) : Option xH := (xcv h o0 11).bind fun _ => (fn203 o0 93 h).bind fun h_1 => some h_1
theorem j206_105_ok {xs : List Int32} {d : Nat} (hd : 2 ≤ d) {u2 : Value} {o0 : Option Nat} {x1 : Int32} {h : xH} {r : xH} (hu2 : u2.category = 1) (hf : j206_105 o0 x1 h = some r) : xEv (xTa xs) d 206 (105, [xrv o0, .int x1, u2], [], h) (none, r) := by
  unfold j206_105 at hf
  refine sh_aload (i' := 0) (n := 1) i206_105 (Or.inr ⟨rfl, by decide⟩) rfl ?_
  refine ev_do i206_106 rfl ?_
  obtain ⟨_, eu_2, hf⟩ := x_bind hf
  obtain ⟨h_1, eh_1, hf⟩ := x_bind hf
  refine sh_inv (as := [.int 93]) (z := (none, h_1)) i206_108 v206_383 (Or.inl ⟨by decide, rfl⟩) m203 rfl (Nat.le_of_ble_eq_true rfl) eu_2 (fn203_call (by omega) eh_1) ?_
  obtain rfl := Option.some.inj hf
  exact sh_vret i206_111 m206 rfl
def j206_92  (o0 : Option Nat) (x1 : Int32) (x2 : Int32) (h : xH) : Option xH := (xcv h o0 11).bind fun _ => (fn203 o0 (48 + (xrem (x2 + 1) 10)) h).bind fun h_1 => j206_105 o0 x1 h_1
theorem j206_92_ok {xs : List Int32} {d : Nat} (hd : 2 ≤ d) {o0 : Option Nat} {x1 : Int32} {x2 : Int32} {h : xH} {r : xH} (hf : j206_92 o0 x1 x2 h = some r) : xEv (xTa xs) d 206 (92, [xrv o0, .int x1, .int x2], [], h) (none, r) := by
  unfold j206_92 at hf
  refine sh_aload (i' := 0) (n := 1) i206_92 (Or.inr ⟨rfl, by decide⟩) rfl ?_
  refine ev_do i206_93 rfl ?_
  refine ev_do i206_95 rfl ?_
  refine ev_do i206_96 rfl ?_
  refine ev_do i206_97 rfl ?_
  refine ev_do i206_98 rfl ?_
  refine sh_rem i206_100 (by decide) ?_
  refine ev_do i206_101 rfl ?_
  obtain ⟨_, eu_2, hf⟩ := x_bind hf
  obtain ⟨h_1, eh_1, hf⟩ := x_bind hf
  refine sh_inv (as := [.int (48 + (xrem (x2 + 1) 10))]) (z := (none, h_1)) i206_102 v206_383 (Or.inl ⟨by decide, rfl⟩) m203 rfl (Nat.le_of_ble_eq_true rfl) eu_2 (fn203_call (by omega) eh_1) ?_
  exact j206_105_ok hd rfl hf
def j206_71  (o0 : Option Nat) (x1 : Int32) (x2 : Int32) (h : xH) : Option xH := (if (x2 + 1) ≤ 9 then j206_92 o0 x1 x2 h else (xcv h o0 11).bind fun _ => (fn203 o0 (48 + ((x2 + 1) / 10)) h).bind fun h_2 => j206_92 o0 x1 x2 h_2)
theorem j206_71_ok {xs : List Int32} {d : Nat} (hd : 2 ≤ d) {o0 : Option Nat} {x1 : Int32} {x2 : Int32} {h : xH} {r : xH} (hf : j206_71 o0 x1 x2 h = some r) : xEv (xTa xs) d 206 (71, [xrv o0, .int x1, .int x2], [], h) (none, r) := by
  unfold j206_71 at hf
  refine ev_do i206_71 rfl ?_
  refine ev_do i206_72 rfl ?_
  refine ev_do i206_73 rfl ?_
  refine ev_do i206_74 rfl ?_
  refine ev_icmp (t := 92) i206_76 rfl (fun c_1 => ?_) (fun c_1 => ?_)
  · replace hf := x_pos (show (x2 + 1) ≤ 9 from c_1) hf
    exact j206_92_ok hd hf
  · replace hf := x_neg (show ¬ (x2 + 1) ≤ 9 from c_1) hf
    refine sh_aload (i' := 0) (n := 1) i206_79 (Or.inr ⟨rfl, by decide⟩) rfl ?_
    refine ev_do i206_80 rfl ?_
    refine ev_do i206_82 rfl ?_
    refine ev_do i206_83 rfl ?_
    refine ev_do i206_84 rfl ?_
    refine ev_do i206_85 rfl ?_
    refine sh_div i206_87 (by decide) ?_
    refine ev_do i206_88 rfl ?_
    obtain ⟨_, eu_3, hf⟩ := x_bind hf
    obtain ⟨h_2, eh_2, hf⟩ := x_bind hf
    refine sh_inv (as := [.int (48 + ((x2 + 1) / 10))]) (z := (none, h_2)) i206_89 v206_383 (Or.inl ⟨by decide, rfl⟩) m203 rfl (Nat.le_of_ble_eq_true rfl) eu_3 (fn203_call (by omega) eh_2) ?_
    exact j206_92_ok hd hf
def j206_46  (o0 : Option Nat) (x1 : Int32) (x2 : Int32) (h : xH) : Option xH := (xgI h o0 11 51).bind fun v_1 => (if x2 = v_1 then (xgR h o0 11 50).bind fun a_3 => (xaS h 13 (fun x => x) a_3 x2 x1).bind fun h_4 => (xgI h_4 o0 11 51).bind fun v_5 => (xpF h_4 o0 11 51 .int (.int (v_5 + 1))).bind fun h_6 => j206_71 o0 x1 x2 h_6 else j206_71 o0 x1 x2 h)
theorem j206_46_ok {xs : List Int32} {d : Nat} (hd : 2 ≤ d) {o0 : Option Nat} {x1 : Int32} {x2 : Int32} {h : xH} {r : xH} (hf : j206_46 o0 x1 x2 h = some r) : xEv (xTa xs) d 206 (46, [xrv o0, .int x1, .int x2], [], h) (none, r) := by
  unfold j206_46 at hf
  refine ev_do i206_46 rfl ?_
  refine sh_aload (i' := 0) (n := 1) i206_47 (Or.inr ⟨rfl, by decide⟩) rfl ?_
  obtain ⟨v_1, ev_1, hf⟩ := x_bind hf
  refine sh_getI i206_48 f206_386 ev_1 ?_
  refine ev_icmp (t := 71) i206_51 rfl (fun c_2 => ?_) (fun c_2 => ?_)
  · replace hf := x_neg (show ¬ x2 = v_1 from c_2) hf
    exact j206_71_ok hd hf
  · replace hf := x_pos (show x2 = v_1 from Decidable.byContradiction (fun h9 => c_2 h9)) hf
    refine sh_aload (i' := 0) (n := 1) i206_54 (Or.inr ⟨rfl, by decide⟩) rfl ?_
    obtain ⟨a_3, ea_3, hf⟩ := x_bind hf
    refine sh_getR i206_55 f206_104 ea_3 ?_
    refine ev_do i206_58 rfl ?_
    refine ev_do i206_59 rfl ?_
    obtain ⟨h_4, eh_4, hf⟩ := x_bind hf
    refine sh_ast (tg := 13) i206_60 (Or.inl ⟨rfl, rfl, rfl⟩) eh_4 ?_
    refine sh_aload (i' := 0) (n := 1) i206_61 (Or.inr ⟨rfl, by decide⟩) rfl ?_
    refine sh_dup i206_62 (xrv_cat (o0)) ?_
    obtain ⟨v_5, ev_5, hf⟩ := x_bind hf
    refine sh_getI i206_63 f206_386 ev_5 ?_
    refine ev_do i206_66 rfl ?_
    refine ev_do i206_67 rfl ?_
    obtain ⟨h_6, eh_6, hf⟩ := x_bind hf
    refine sh_put i206_68 f206_386 (by decide) rfl eh_6 ?_
    exact j206_71_ok hd hf
def l206_22  : Nat → Option Nat → Int32 → Int32 → xH → Option xH
  | 0 => fun _ _ _ _ => none
  | n + 1 => fun o0 x1 x2 h => (xgI h o0 11 51).bind fun v_1 => (if v_1 ≤ x2 then j206_46 o0 x1 x2 h else (xgR h o0 11 50).bind fun a_3 => (xaI h 13 a_3 x2).bind fun v_4 => (if v_4 = x1 then j206_46 o0 x1 x2 h else l206_22 n o0 x1 (x2 + 1) h))
theorem l206_22_ok {xs : List Int32} {d : Nat} (hd : 2 ≤ d) : ∀ (n : Nat) {o0 : Option Nat} {x1 : Int32} {x2 : Int32} {h : xH} {r : xH}, l206_22 n o0 x1 x2 h = some r → xEv (xTa xs) d 206 (22, [xrv o0, .int x1, .int x2], [], h) (none, r) := by
  intro n
  induction n with
  | zero => intros; rename_i hf; cases hf
  | succ n ih =>
    intro o0 x1 x2 h r hf
    replace hf : ((xgI h o0 11 51).bind fun v_1 => (if v_1 ≤ x2 then j206_46 o0 x1 x2 h else (xgR h o0 11 50).bind fun a_3 => (xaI h 13 a_3 x2).bind fun v_4 => (if v_4 = x1 then j206_46 o0 x1 x2 h else l206_22 n o0 x1 (x2 + 1) h))) = some r := hf
    refine ev_do i206_22 rfl ?_
    refine sh_aload (i' := 0) (n := 1) i206_23 (Or.inr ⟨rfl, by decide⟩) rfl ?_
    obtain ⟨v_1, ev_1, hf⟩ := x_bind hf
    refine sh_getI i206_24 f206_386 ev_1 ?_
    refine ev_icmp (t := 46) i206_27 rfl (fun c_2 => ?_) (fun c_2 => ?_)
    · replace hf := x_pos (show v_1 ≤ x2 from c_2) hf
      exact j206_46_ok hd hf
    · replace hf := x_neg (show ¬ v_1 ≤ x2 from c_2) hf
      refine sh_aload (i' := 0) (n := 1) i206_30 (Or.inr ⟨rfl, by decide⟩) rfl ?_
      obtain ⟨a_3, ea_3, hf⟩ := x_bind hf
      refine sh_getR i206_31 f206_104 ea_3 ?_
      refine ev_do i206_34 rfl ?_
      obtain ⟨v_4, ev_4, hf⟩ := x_bind hf
      refine sh_aldI (tg := 13) i206_35 (Or.inl ⟨rfl, rfl⟩) ev_4 ?_
      refine ev_do i206_36 rfl ?_
      refine ev_icmp (t := 46) i206_37 rfl (fun c_5 => ?_) (fun c_5 => ?_)
      · replace hf := x_pos (show v_4 = x1 from c_5) hf
        exact j206_46_ok hd hf
      · replace hf := x_neg (show ¬ v_4 = x1 from c_5) hf
        refine sh_inc (i' := 2) i206_40 rfl (xokst_of (Nat.le_of_ble_eq_true rfl) rfl) rfl ?_
        refine sh_goto (t := 22) i206_43 rfl ?_
        exact ih hf
def fn206 (o0 : Option Nat) (x1 : Int32) (h : xH) : Option xH := (xcv h o0 11).bind fun _ => (fn203 o0 91 h).bind fun h_1 => (if x1 = (-1) then (xcv h_1 o0 11).bind fun _ => (fn203 o0 63 h_1).bind fun h_3 => j206_105 o0 x1 h_3 else l206_22 xFuel o0 x1 0 h_1)
theorem fn206_call {xs : List Int32} {d : Nat} (hd : 3 ≤ d) {o0 : Option Nat} {x1 : Int32} {h : xH} {r : xH} (hf : fn206 o0 x1 h = some r) : xCall (xTa xs) d 206 [xrv o0, .int x1] h (none, r) := by
  obtain ⟨d, rfl⟩ : ∃ d2, d = d2 + 1 := ⟨d - 1, by omega⟩
  replace hd : 2 ≤ d := by omega
  refine call_of2 (fl := [xrv o0, .int x1]) (Ls := [xrv o0, .int x1, .float 0]) m206 (by simp [xfl, xrv_cat, xc_i, xc_j, xc_a, xc_f]) (Nat.le_of_ble_eq_true rfl) rfl ?_
  unfold fn206 at hf
  refine sh_aload (i' := 0) (n := 1) i206_0 (Or.inr ⟨rfl, by decide⟩) rfl ?_
  refine ev_do i206_1 rfl ?_
  obtain ⟨_, eu_5, hf⟩ := x_bind hf
  obtain ⟨h_1, eh_1, hf⟩ := x_bind hf
  refine sh_inv (as := [.int 91]) (z := (none, h_1)) i206_3 v206_383 (Or.inl ⟨by decide, rfl⟩) m203 rfl (Nat.le_of_ble_eq_true rfl) eu_5 (fn203_call (by omega) eh_1) ?_
  refine ev_do i206_6 rfl ?_
  refine ev_do i206_7 rfl ?_
  refine ev_icmp (t := 20) i206_8 rfl (fun c_2 => ?_) (fun c_2 => ?_)
  · replace hf := x_neg (show ¬ x1 = (-1) from c_2) hf
    refine ev_do i206_20 rfl ?_
    refine sh_istore (i' := 2) (n := 1) i206_21 (Or.inr ⟨rfl, by decide⟩) (xokst_of (Nat.le_of_ble_eq_true rfl) rfl) ?_
    exact l206_22_ok hd xFuel hf
  · replace hf := x_pos (show x1 = (-1) from Decidable.byContradiction (fun h9 => c_2 h9)) hf
    refine sh_aload (i' := 0) (n := 1) i206_11 (Or.inr ⟨rfl, by decide⟩) rfl ?_
    refine ev_do i206_12 rfl ?_
    obtain ⟨_, eu_4, hf⟩ := x_bind hf
    obtain ⟨h_3, eh_3, hf⟩ := x_bind hf
    refine sh_inv (as := [.int 63]) (z := (none, h_3)) i206_14 v206_383 (Or.inl ⟨by decide, rfl⟩) m203 rfl (Nat.le_of_ble_eq_true rfl) eu_4 (fn203_call (by omega) eh_3) ?_
    refine sh_goto (t := 105) i206_17 rfl ?_
    exact j206_105_ok hd rfl hf
end
section
def j207_253 (k149 : Option Nat → Int32 → Int32 → Int32 → Int32 → xH → Option xH) (o0 : Option Nat) (x1 : Int32) (x2 : Int32) (x3 : Int32) (x4 : Int32) (x5 : Int32) (h : xH) : Option xH := k149 o0 x1 x2 x3 (x4 + 1) h
theorem j207_253_ok {xs : List Int32} {d : Nat} (hd : 5 ≤ d) {k149 : Option Nat → Int32 → Int32 → Int32 → Int32 → xH → Option xH} (hk149 : ∀ {u5 : Value} {o0 : Option Nat} {x1 : Int32} {x2 : Int32} {x3 : Int32} {x4 : Int32} {h : xH} {r : xH}, u5.category = 1 → k149 o0 x1 x2 x3 x4 h = some r → xEv (xTa xs) d 207 (149, [xrv o0, .int x1, .int x2, .int x3, .int x4, u5], [], h) (none, r)) {o0 : Option Nat} {x1 : Int32} {x2 : Int32} {x3 : Int32} {x4 : Int32} {x5 : Int32} {h : xH} {r : xH} (hf : j207_253 k149 o0 x1 x2 x3 x4 x5 h = some r) : xEv (xTa xs) d 207 (253, [xrv o0, .int x1, .int x2, .int x3, .int x4, .int x5], [], h) (none, r) := by
  unfold j207_253 at hf
  refine sh_inc (i' := 4) i207_253 rfl (xokst_of (Nat.le_of_ble_eq_true rfl) rfl) rfl ?_
  refine sh_goto (t := 149) i207_256 rfl ?_
  exact hk149 rfl hf
def j207_190 (k149 : Option Nat → Int32 → Int32 → Int32 → Int32 → xH → Option xH) (o0 : Option Nat) (x1 : Int32) (x2 : Int32) (x3 : Int32) (x4 : Int32) (x5 : Int32) (h : xH) : Option xH := (xgR h o0 11 26).bind fun a_1 => (xaI h 13 a_1 x5).bind fun v_2 => (xgR h o0 11 27).bind fun a_3 => (xaI h 13 a_3 x5).bind fun v_4 => (xcv h o0 11).bind fun _ => (fn204 o0 x1 v_2 v_4 h).bind fun h_5 => (xgR h_5 o0 11 24).bind fun a_6 => (xaI h_5 13 a_6 x5).bind fun v_7 => (if v_7 = 2 then (xgR h_5 o0 11 12).bind fun a_9 => (xgR h_5 o0 11 29).bind fun a_10 => (xaI h_5 13 a_10 x5).bind fun v_11 => (xgR h_5 o0 11 30).bind fun a_12 => (xaI h_5 13 a_12 x5).bind fun v_13 => (xcv h_5 o0 11).bind fun _ => (fn164 o0 x1 a_9 ((600 * x1) + v_11) v_13 h_5).bind fun r_14 => (xcv r_14.2 o0 11).bind fun _ => (fn206 o0 r_14.1 r_14.2).bind fun h_15 => j207_253 k149 o0 x1 x2 x3 x4 x5 h_15 else j207_253 k149 o0 x1 x2 x3 x4 x5 h_5)
theorem j207_190_ok {xs : List Int32} {d : Nat} (hd : 5 ≤ d) {k149 : Option Nat → Int32 → Int32 → Int32 → Int32 → xH → Option xH} (hk149 : ∀ {u5 : Value} {o0 : Option Nat} {x1 : Int32} {x2 : Int32} {x3 : Int32} {x4 : Int32} {h : xH} {r : xH}, u5.category = 1 → k149 o0 x1 x2 x3 x4 h = some r → xEv (xTa xs) d 207 (149, [xrv o0, .int x1, .int x2, .int x3, .int x4, u5], [], h) (none, r)) {o0 : Option Nat} {x1 : Int32} {x2 : Int32} {x3 : Int32} {x4 : Int32} {x5 : Int32} {h : xH} {r : xH} (hf : j207_190 k149 o0 x1 x2 x3 x4 x5 h = some r) : xEv (xTa xs) d 207 (190, [xrv o0, .int x1, .int x2, .int x3, .int x4, .int x5], [], h) (none, r) := by
  unfold j207_190 at hf
  refine sh_aload (i' := 0) (n := 1) i207_190 (Or.inr ⟨rfl, by decide⟩) rfl ?_
  refine ev_do i207_191 rfl ?_
  refine sh_aload (i' := 0) (n := 1) i207_192 (Or.inr ⟨rfl, by decide⟩) rfl ?_
  obtain ⟨a_1, ea_1, hf⟩ := x_bind hf
  refine sh_getR i207_193 f207_83 ea_1 ?_
  refine ev_do i207_196 rfl ?_
  obtain ⟨v_2, ev_2, hf⟩ := x_bind hf
  refine sh_aldI (tg := 13) i207_198 (Or.inl ⟨rfl, rfl⟩) ev_2 ?_
  refine sh_aload (i' := 0) (n := 1) i207_199 (Or.inr ⟨rfl, by decide⟩) rfl ?_
  obtain ⟨a_3, ea_3, hf⟩ := x_bind hf
  refine sh_getR i207_200 f207_86 ea_3 ?_
  refine ev_do i207_203 rfl ?_
  obtain ⟨v_4, ev_4, hf⟩ := x_bind hf
  refine sh_aldI (tg := 13) i207_205 (Or.inl ⟨rfl, rfl⟩) ev_4 ?_
  obtain ⟨_, eu_18, hf⟩ := x_bind hf
  obtain ⟨h_5, eh_5, hf⟩ := x_bind hf
  refine sh_inv (as := [.int v_4, .int v_2, .int x1]) (z := (none, h_5)) i207_206 v207_396 (Or.inl ⟨by decide, rfl⟩) m204 rfl (Nat.le_of_ble_eq_true rfl) eu_18 (fn204_call (by omega) eh_5) ?_
  refine sh_aload (i' := 0) (n := 1) i207_209 (Or.inr ⟨rfl, by decide⟩) rfl ?_
  obtain ⟨a_6, ea_6, hf⟩ := x_bind hf
  refine sh_getR i207_210 f207_77 ea_6 ?_
  refine ev_do i207_213 rfl ?_
  obtain ⟨v_7, ev_7, hf⟩ := x_bind hf
  refine sh_aldI (tg := 13) i207_215 (Or.inl ⟨rfl, rfl⟩) ev_7 ?_
  refine ev_do i207_216 rfl ?_
  refine ev_icmp (t := 253) i207_217 rfl (fun c_8 => ?_) (fun c_8 => ?_)
  · replace hf := x_neg (show ¬ v_7 = 2 from c_8) hf
    exact j207_253_ok hd hk149 hf
  · replace hf := x_pos (show v_7 = 2 from Decidable.byContradiction (fun h9 => c_8 h9)) hf
    refine sh_aload (i' := 0) (n := 1) i207_220 (Or.inr ⟨rfl, by decide⟩) rfl ?_
    refine sh_aload (i' := 0) (n := 1) i207_221 (Or.inr ⟨rfl, by decide⟩) rfl ?_
    refine ev_do i207_222 rfl ?_
    refine sh_aload (i' := 0) (n := 1) i207_223 (Or.inr ⟨rfl, by decide⟩) rfl ?_
    obtain ⟨a_9, ea_9, hf⟩ := x_bind hf
    refine sh_getR i207_224 f207_41 ea_9 ?_
    refine ev_do i207_227 rfl ?_
    refine ev_do i207_230 rfl ?_
    refine ev_do i207_231 rfl ?_
    refine sh_aload (i' := 0) (n := 1) i207_232 (Or.inr ⟨rfl, by decide⟩) rfl ?_
    obtain ⟨a_10, ea_10, hf⟩ := x_bind hf
    refine sh_getR i207_233 f207_92 ea_10 ?_
    refine ev_do i207_236 rfl ?_
    obtain ⟨v_11, ev_11, hf⟩ := x_bind hf
    refine sh_aldI (tg := 13) i207_238 (Or.inl ⟨rfl, rfl⟩) ev_11 ?_
    refine ev_do i207_239 rfl ?_
    refine sh_aload (i' := 0) (n := 1) i207_240 (Or.inr ⟨rfl, by decide⟩) rfl ?_
    obtain ⟨a_12, ea_12, hf⟩ := x_bind hf
    refine sh_getR i207_241 f207_95 ea_12 ?_
    refine ev_do i207_244 rfl ?_
    obtain ⟨v_13, ev_13, hf⟩ := x_bind hf
    refine sh_aldI (tg := 13) i207_246 (Or.inl ⟨rfl, rfl⟩) ev_13 ?_
    obtain ⟨_, eu_17, hf⟩ := x_bind hf
    obtain ⟨r_14, er_14, hf⟩ := x_bind hf
    refine sh_inv (as := [.int v_13, .int ((600 * x1) + v_11), xrv a_9, .int x1]) (z := (some (.int r_14.1), r_14.2)) i207_247 v207_215 (Or.inl ⟨by decide, rfl⟩) m164 rfl (by simp [xcat, xrv_cat, xc_i, xc_j, xc_a, xc_f]) eu_17 (fn164_call (by omega) er_14) ?_
    obtain ⟨_, eu_16, hf⟩ := x_bind hf
    obtain ⟨h_15, eh_15, hf⟩ := x_bind hf
    refine sh_inv (as := [.int r_14.1]) (z := (none, h_15)) i207_250 v207_399 (Or.inl ⟨by decide, rfl⟩) m206 rfl (Nat.le_of_ble_eq_true rfl) eu_16 (fn206_call (by omega) eh_15) ?_
    exact j207_253_ok hd hk149 hf
def l207_149  : Nat → Option Nat → Int32 → Int32 → Int32 → Int32 → xH → Option xH
  | 0 => fun _ _ _ _ _ _ => none
  | n + 1 => fun o0 x1 x2 x3 x4 h => (xgR h o0 11 19).bind fun a_1 => (xaI h 13 a_1 x2).bind fun v_2 => (if v_2 ≤ x4 then some h else (xgR h o0 11 18).bind fun a_4 => (xaI h 13 a_4 x2).bind fun v_5 => (xgR h o0 11 28).bind fun a_6 => (xaI h 14 a_6 (((120 * x1) + v_5) + x4)).bind fun v_7 => (if v_7 = 0 then (xcv h o0 11).bind fun _ => (fn202 o0 h).bind fun h_9 => j207_190 (l207_149 n) o0 x1 x2 x3 x4 (((120 * x1) + v_5) + x4) h_9 else j207_190 (l207_149 n) o0 x1 x2 x3 x4 (((120 * x1) + v_5) + x4) h))
theorem l207_149_ok {xs : List Int32} {d : Nat} (hd : 5 ≤ d) : ∀ (n : Nat) {u5 : Value} {o0 : Option Nat} {x1 : Int32} {x2 : Int32} {x3 : Int32} {x4 : Int32} {h : xH} {r : xH} (hu5 : u5.category = 1), l207_149 n o0 x1 x2 x3 x4 h = some r → xEv (xTa xs) d 207 (149, [xrv o0, .int x1, .int x2, .int x3, .int x4, u5], [], h) (none, r) := by
  intro n
  induction n with
  | zero => intros; rename_i hf; cases hf
  | succ n ih =>
    intro u5 o0 x1 x2 x3 x4 h r hu5 hf
    replace hf : ((xgR h o0 11 19).bind fun a_1 => (xaI h 13 a_1 x2).bind fun v_2 => (if v_2 ≤ x4 then some h else (xgR h o0 11 18).bind fun a_4 => (xaI h 13 a_4 x2).bind fun v_5 => (xgR h o0 11 28).bind fun a_6 => (xaI h 14 a_6 (((120 * x1) + v_5) + x4)).bind fun v_7 => (if v_7 = 0 then (xcv h o0 11).bind fun _ => (fn202 o0 h).bind fun h_9 => j207_190 (l207_149 n) o0 x1 x2 x3 x4 (((120 * x1) + v_5) + x4) h_9 else j207_190 (l207_149 n) o0 x1 x2 x3 x4 (((120 * x1) + v_5) + x4) h))) = some r := hf
    refine ev_do i207_149 rfl ?_
    refine sh_aload (i' := 0) (n := 1) i207_151 (Or.inr ⟨rfl, by decide⟩) rfl ?_
    obtain ⟨a_1, ea_1, hf⟩ := x_bind hf
    refine sh_getR i207_152 f207_62 ea_1 ?_
    refine ev_do i207_155 rfl ?_
    obtain ⟨v_2, ev_2, hf⟩ := x_bind hf
    refine sh_aldI (tg := 13) i207_156 (Or.inl ⟨rfl, rfl⟩) ev_2 ?_
    refine ev_icmp (t := 259) i207_157 rfl (fun c_3 => ?_) (fun c_3 => ?_)
    · replace hf := x_pos (show v_2 ≤ x4 from c_3) hf
      obtain rfl := Option.some.inj hf
      exact sh_vret i207_259 m207 rfl
    · replace hf := x_neg (show ¬ v_2 ≤ x4 from c_3) hf
      refine ev_do i207_160 rfl ?_
      refine ev_do i207_162 rfl ?_
      refine ev_do i207_163 rfl ?_
      refine sh_aload (i' := 0) (n := 1) i207_164 (Or.inr ⟨rfl, by decide⟩) rfl ?_
      obtain ⟨a_4, ea_4, hf⟩ := x_bind hf
      refine sh_getR i207_165 f207_59 ea_4 ?_
      refine ev_do i207_168 rfl ?_
      obtain ⟨v_5, ev_5, hf⟩ := x_bind hf
      refine sh_aldI (tg := 13) i207_169 (Or.inl ⟨rfl, rfl⟩) ev_5 ?_
      refine ev_do i207_170 rfl ?_
      refine ev_do i207_171 rfl ?_
      refine ev_do i207_173 rfl ?_
      refine sh_istore (i' := 5) (n := 2) i207_174 (Or.inl rfl) (xokst_of (Nat.le_of_ble_eq_true rfl) rfl) ?_
      refine sh_aload (i' := 0) (n := 1) i207_176 (Or.inr ⟨rfl, by decide⟩) rfl ?_
      obtain ⟨a_6, ea_6, hf⟩ := x_bind hf
      refine sh_getR i207_177 f207_89 ea_6 ?_
      refine ev_do i207_180 rfl ?_
      obtain ⟨v_7, ev_7, hf⟩ := x_bind hf
      refine sh_aldI (tg := 14) i207_182 (Or.inr (Or.inr ⟨rfl, rfl⟩)) ev_7 ?_
      refine ev_if (t := 190) i207_183 rfl (fun c_8 => ?_) (fun c_8 => ?_)
      · replace hf := x_neg (show ¬ v_7 = 0 from c_8) hf
        exact j207_190_ok hd ih hf
      · replace hf := x_pos (show v_7 = 0 from Decidable.byContradiction (fun h9 => c_8 h9)) hf
        refine sh_aload (i' := 0) (n := 1) i207_186 (Or.inr ⟨rfl, by decide⟩) rfl ?_
        obtain ⟨_, eu_10, hf⟩ := x_bind hf
        obtain ⟨h_9, eh_9, hf⟩ := x_bind hf
        refine sh_inv (as := []) (z := (none, h_9)) i207_187 v207_389 (Or.inl ⟨by decide, rfl⟩) m202 rfl (Nat.le_of_ble_eq_true rfl) eu_10 (fn202_call (by omega) eh_9) ?_
        exact j207_190_ok hd ih hf
def j207_146  (o0 : Option Nat) (x1 : Int32) (x2 : Int32) (x3 : Int32) (h : xH) : Option xH := l207_149 xFuel o0 x1 x2 x3 0 h
theorem j207_146_ok {xs : List Int32} {d : Nat} (hd : 5 ≤ d) {u4 : Value} {u5 : Value} {o0 : Option Nat} {x1 : Int32} {x2 : Int32} {x3 : Int32} {h : xH} {r : xH} (hu4 : u4.category = 1) (hu5 : u5.category = 1) (hf : j207_146 o0 x1 x2 x3 h = some r) : xEv (xTa xs) d 207 (146, [xrv o0, .int x1, .int x2, .int x3, u4, u5], [], h) (none, r) := by
  unfold j207_146 at hf
  refine ev_do i207_146 rfl ?_
  refine sh_istore (i' := 4) (n := 2) i207_147 (Or.inl rfl) (xokst_of (Nat.le_of_ble_eq_true rfl) rfl) ?_
  exact l207_149_ok hd xFuel hu5 hf
def j207_115  (o0 : Option Nat) (x1 : Int32) (x2 : Int32) (x3 : Int32) (h : xH) : Option xH := (xgR h o0 11 12).bind fun a_1 => (xgR h o0 11 21).bind fun a_2 => (xaI h 13 a_2 x2).bind fun v_3 => (xgR h o0 11 22).bind fun a_4 => (xaI h 13 a_4 x2).bind fun v_5 => (xcv h o0 11).bind fun _ => (fn164 o0 x1 a_1 ((600 * x1) + v_3) v_5 h).bind fun r_6 => (xcv r_6.2 o0 11).bind fun _ => (fn206 o0 r_6.1 r_6.2).bind fun h_7 => j207_146 o0 x1 x2 x3 h_7
theorem j207_115_ok {xs : List Int32} {d : Nat} (hd : 5 ≤ d) {u4 : Value} {u5 : Value} {o0 : Option Nat} {x1 : Int32} {x2 : Int32} {x3 : Int32} {h : xH} {r : xH} (hu4 : u4.category = 1) (hu5 : u5.category = 1) (hf : j207_115 o0 x1 x2 x3 h = some r) : xEv (xTa xs) d 207 (115, [xrv o0, .int x1, .int x2, .int x3, u4, u5], [], h) (none, r) := by
  unfold j207_115 at hf
  refine sh_aload (i' := 0) (n := 1) i207_115 (Or.inr ⟨rfl, by decide⟩) rfl ?_
  refine sh_aload (i' := 0) (n := 1) i207_116 (Or.inr ⟨rfl, by decide⟩) rfl ?_
  refine ev_do i207_117 rfl ?_
  refine sh_aload (i' := 0) (n := 1) i207_118 (Or.inr ⟨rfl, by decide⟩) rfl ?_
  obtain ⟨a_1, ea_1, hf⟩ := x_bind hf
  refine sh_getR i207_119 f207_41 ea_1 ?_
  refine ev_do i207_122 rfl ?_
  refine ev_do i207_125 rfl ?_
  refine ev_do i207_126 rfl ?_
  refine sh_aload (i' := 0) (n := 1) i207_127 (Or.inr ⟨rfl, by decide⟩) rfl ?_
  obtain ⟨a_2, ea_2, hf⟩ := x_bind hf
  refine sh_getR i207_128 f207_68 ea_2 ?_
  refine ev_do i207_131 rfl ?_
  obtain ⟨v_3, ev_3, hf⟩ := x_bind hf
  refine sh_aldI (tg := 13) i207_132 (Or.inl ⟨rfl, rfl⟩) ev_3 ?_
  refine ev_do i207_133 rfl ?_
  refine sh_aload (i' := 0) (n := 1) i207_134 (Or.inr ⟨rfl, by decide⟩) rfl ?_
  obtain ⟨a_4, ea_4, hf⟩ := x_bind hf
  refine sh_getR i207_135 f207_71 ea_4 ?_
  refine ev_do i207_138 rfl ?_
  obtain ⟨v_5, ev_5, hf⟩ := x_bind hf
  refine sh_aldI (tg := 13) i207_139 (Or.inl ⟨rfl, rfl⟩) ev_5 ?_
  obtain ⟨_, eu_9, hf⟩ := x_bind hf
  obtain ⟨r_6, er_6, hf⟩ := x_bind hf
  refine sh_inv (as := [.int v_5, .int ((600 * x1) + v_3), xrv a_1, .int x1]) (z := (some (.int r_6.1), r_6.2)) i207_140 v207_215 (Or.inl ⟨by decide, rfl⟩) m164 rfl (by simp [xcat, xrv_cat, xc_i, xc_j, xc_a, xc_f]) eu_9 (fn164_call (by omega) er_6) ?_
  obtain ⟨_, eu_8, hf⟩ := x_bind hf
  obtain ⟨h_7, eh_7, hf⟩ := x_bind hf
  refine sh_inv (as := [.int r_6.1]) (z := (none, h_7)) i207_143 v207_399 (Or.inl ⟨by decide, rfl⟩) m206 rfl (Nat.le_of_ble_eq_true rfl) eu_8 (fn206_call (by omega) eh_7) ?_
  exact j207_146_ok hd hu4 hu5 hf
def j207_105  (o0 : Option Nat) (x1 : Int32) (x2 : Int32) (x3 : Int32) (h : xH) : Option xH := (if x3 = 4 then j207_115 o0 x1 x2 x3 h else (if x3 = 5 then j207_115 o0 x1 x2 x3 h else j207_146 o0 x1 x2 x3 h))
theorem j207_105_ok {xs : List Int32} {d : Nat} (hd : 5 ≤ d) {u4 : Value} {u5 : Value} {o0 : Option Nat} {x1 : Int32} {x2 : Int32} {x3 : Int32} {h : xH} {r : xH} (hu4 : u4.category = 1) (hu5 : u5.category = 1) (hf : j207_105 o0 x1 x2 x3 h = some r) : xEv (xTa xs) d 207 (105, [xrv o0, .int x1, .int x2, .int x3, u4, u5], [], h) (none, r) := by
  unfold j207_105 at hf
  refine ev_do i207_105 rfl ?_
  refine ev_do i207_106 rfl ?_
  refine ev_icmp (t := 115) i207_107 rfl (fun c_1 => ?_) (fun c_1 => ?_)
  · replace hf := x_pos (show x3 = 4 from c_1) hf
    exact j207_115_ok hd hu4 hu5 hf
  · replace hf := x_neg (show ¬ x3 = 4 from c_1) hf
    refine ev_do i207_110 rfl ?_
    refine ev_do i207_111 rfl ?_
    refine ev_icmp (t := 146) i207_112 rfl (fun c_2 => ?_) (fun c_2 => ?_)
    · replace hf := x_neg (show ¬ x3 = 5 from c_2) hf
      exact j207_146_ok hd hu4 hu5 hf
    · replace hf := x_pos (show x3 = 5 from Decidable.byContradiction (fun h9 => c_2 h9)) hf
      exact j207_115_ok hd hu4 hu5 hf
def j207_74  (o0 : Option Nat) (x1 : Int32) (x2 : Int32) (x3 : Int32) (s0 : Option Nat) (s1 : Int64) (h : xH) : Option xH := (xcv h s0 11).bind fun _ => (fn205 s0 s1 h).bind fun h_1 => (if x3 = 3 then j207_105 o0 x1 x2 x3 h_1 else (xcv h_1 o0 11).bind fun _ => (fn203 o0 32 h_1).bind fun h_3 => (xgR h_3 o0 11 21).bind fun a_4 => (xaI h_3 13 a_4 x2).bind fun v_5 => (xgR h_3 o0 11 22).bind fun a_6 => (xaI h_3 13 a_6 x2).bind fun v_7 => (xcv h_3 o0 11).bind fun _ => (fn204 o0 x1 v_5 v_7 h_3).bind fun h_8 => j207_105 o0 x1 x2 x3 h_8)
theorem j207_74_ok {xs : List Int32} {d : Nat} (hd : 5 ≤ d) {u4 : Value} {u5 : Value} {o0 : Option Nat} {x1 : Int32} {x2 : Int32} {x3 : Int32} {s0 : Option Nat} {s1 : Int64} {h : xH} {r : xH} (hu4 : u4.category = 1) (hu5 : u5.category = 1) (hf : j207_74 o0 x1 x2 x3 s0 s1 h = some r) : xEv (xTa xs) d 207 (74, [xrv o0, .int x1, .int x2, .int x3, u4, u5], [.long s1, xrv s0], h) (none, r) := by
  unfold j207_74 at hf
  obtain ⟨_, eu_11, hf⟩ := x_bind hf
  obtain ⟨h_1, eh_1, hf⟩ := x_bind hf
  refine sh_inv (as := [.long s1]) (z := (none, h_1)) i207_74 v207_392 (Or.inl ⟨by decide, rfl⟩) m205 rfl (Nat.le_of_ble_eq_true rfl) eu_11 (fn205_call (by omega) eh_1) ?_
  refine ev_do i207_77 rfl ?_
  refine ev_do i207_78 rfl ?_
  refine ev_icmp (t := 105) i207_79 rfl (fun c_2 => ?_) (fun c_2 => ?_)
  · replace hf := x_pos (show x3 = 3 from c_2) hf
    exact j207_105_ok hd hu4 hu5 hf
  · replace hf := x_neg (show ¬ x3 = 3 from c_2) hf
    refine sh_aload (i' := 0) (n := 1) i207_82 (Or.inr ⟨rfl, by decide⟩) rfl ?_
    refine ev_do i207_83 rfl ?_
    obtain ⟨_, eu_10, hf⟩ := x_bind hf
    obtain ⟨h_3, eh_3, hf⟩ := x_bind hf
    refine sh_inv (as := [.int 32]) (z := (none, h_3)) i207_85 v207_383 (Or.inl ⟨by decide, rfl⟩) m203 rfl (Nat.le_of_ble_eq_true rfl) eu_10 (fn203_call (by omega) eh_3) ?_
    refine sh_aload (i' := 0) (n := 1) i207_88 (Or.inr ⟨rfl, by decide⟩) rfl ?_
    refine ev_do i207_89 rfl ?_
    refine sh_aload (i' := 0) (n := 1) i207_90 (Or.inr ⟨rfl, by decide⟩) rfl ?_
    obtain ⟨a_4, ea_4, hf⟩ := x_bind hf
    refine sh_getR i207_91 f207_68 ea_4 ?_
    refine ev_do i207_94 rfl ?_
    obtain ⟨v_5, ev_5, hf⟩ := x_bind hf
    refine sh_aldI (tg := 13) i207_95 (Or.inl ⟨rfl, rfl⟩) ev_5 ?_
    refine sh_aload (i' := 0) (n := 1) i207_96 (Or.inr ⟨rfl, by decide⟩) rfl ?_
    obtain ⟨a_6, ea_6, hf⟩ := x_bind hf
    refine sh_getR i207_97 f207_71 ea_6 ?_
    refine ev_do i207_100 rfl ?_
    obtain ⟨v_7, ev_7, hf⟩ := x_bind hf
    refine sh_aldI (tg := 13) i207_101 (Or.inl ⟨rfl, rfl⟩) ev_7 ?_
    obtain ⟨_, eu_9, hf⟩ := x_bind hf
    obtain ⟨h_8, eh_8, hf⟩ := x_bind hf
    refine sh_inv (as := [.int v_7, .int v_5, .int x1]) (z := (none, h_8)) i207_102 v207_396 (Or.inl ⟨by decide, rfl⟩) m204 rfl (Nat.le_of_ble_eq_true rfl) eu_9 (fn204_call (by omega) eh_8) ?_
    exact j207_105_ok hd hu4 hu5 hf
def fn207 (o0 : Option Nat) (x1 : Int32) (x2 : Int32) (h : xH) : Option xH := (xpF h o0 11 61 .int (.int 0)).bind fun h_1 => (xpF h_1 o0 11 63 .int (.int 0)).bind fun h_2 => (xgR h_2 o0 11 16).bind fun a_3 => (xaI h_2 13 a_3 x2).bind fun v_4 => (if v_4 ≤ 1 then j207_146 o0 x1 x2 v_4 h_2 else (xcv h_2 o0 11).bind fun _ => (fn202 o0 h_2).bind fun h_6 => (if v_4 = 2 then j207_74 o0 x1 x2 v_4 o0 482671223149 h_6 else (if v_4 = 3 then j207_74 o0 x1 x2 v_4 o0 125780071117422 h_6 else (if v_4 = 4 then j207_74 o0 x1 x2 v_4 o0 127991945328499 h_6 else (if v_4 = 5 then j207_74 o0 x1 x2 v_4 o0 7562597 h_6 else j207_74 o0 x1 x2 v_4 o0 495690081125 h_6)))))
theorem fn207_call {xs : List Int32} {d : Nat} (hd : 6 ≤ d) {o0 : Option Nat} {x1 : Int32} {x2 : Int32} {h : xH} {r : xH} (hf : fn207 o0 x1 x2 h = some r) : xCall (xTa xs) d 207 [xrv o0, .int x1, .int x2] h (none, r) := by
  obtain ⟨d, rfl⟩ : ∃ d2, d = d2 + 1 := ⟨d - 1, by omega⟩
  replace hd : 5 ≤ d := by omega
  refine call_of2 (fl := [xrv o0, .int x1, .int x2]) (Ls := [xrv o0, .int x1, .int x2, .float 0, .float 0, .float 0]) m207 (by simp [xfl, xrv_cat, xc_i, xc_j, xc_a, xc_f]) (Nat.le_of_ble_eq_true rfl) rfl ?_
  unfold fn207 at hf
  refine sh_aload (i' := 0) (n := 1) i207_0 (Or.inr ⟨rfl, by decide⟩) rfl ?_
  refine ev_do i207_1 rfl ?_
  obtain ⟨h_1, eh_1, hf⟩ := x_bind hf
  refine sh_put i207_2 f207_380 (by decide) rfl eh_1 ?_
  refine sh_aload (i' := 0) (n := 1) i207_5 (Or.inr ⟨rfl, by decide⟩) rfl ?_
  refine ev_do i207_6 rfl ?_
  obtain ⟨h_2, eh_2, hf⟩ := x_bind hf
  refine sh_put i207_7 f207_377 (by decide) rfl eh_2 ?_
  refine sh_aload (i' := 0) (n := 1) i207_10 (Or.inr ⟨rfl, by decide⟩) rfl ?_
  obtain ⟨a_3, ea_3, hf⟩ := x_bind hf
  refine sh_getR i207_11 f207_53 ea_3 ?_
  refine ev_do i207_14 rfl ?_
  obtain ⟨v_4, ev_4, hf⟩ := x_bind hf
  refine sh_aldI (tg := 13) i207_15 (Or.inl ⟨rfl, rfl⟩) ev_4 ?_
  refine sh_istore (i' := 3) (n := 1) i207_16 (Or.inr ⟨rfl, by decide⟩) (xokst_of (Nat.le_of_ble_eq_true rfl) rfl) ?_
  refine ev_do i207_17 rfl ?_
  refine ev_do i207_18 rfl ?_
  refine ev_icmp (t := 146) i207_19 rfl (fun c_5 => ?_) (fun c_5 => ?_)
  · replace hf := x_pos (show v_4 ≤ 1 from c_5) hf
    exact j207_146_ok hd rfl rfl hf
  · replace hf := x_neg (show ¬ v_4 ≤ 1 from c_5) hf
    refine sh_aload (i' := 0) (n := 1) i207_22 (Or.inr ⟨rfl, by decide⟩) rfl ?_
    obtain ⟨_, eu_11, hf⟩ := x_bind hf
    obtain ⟨h_6, eh_6, hf⟩ := x_bind hf
    refine sh_inv (as := []) (z := (none, h_6)) i207_23 v207_389 (Or.inl ⟨by decide, rfl⟩) m202 rfl (Nat.le_of_ble_eq_true rfl) eu_11 (fn202_call (by omega) eh_6) ?_
    refine sh_aload (i' := 0) (n := 1) i207_26 (Or.inr ⟨rfl, by decide⟩) rfl ?_
    refine ev_do i207_27 rfl ?_
    refine ev_do i207_28 rfl ?_
    refine ev_icmp (t := 38) i207_29 rfl (fun c_7 => ?_) (fun c_7 => ?_)
    · replace hf := x_neg (show ¬ v_4 = 2 from c_7) hf
      refine ev_do i207_38 rfl ?_
      refine ev_do i207_39 rfl ?_
      refine ev_icmp (t := 49) i207_40 rfl (fun c_8 => ?_) (fun c_8 => ?_)
      · replace hf := x_neg (show ¬ v_4 = 3 from c_8) hf
        refine ev_do i207_49 rfl ?_
        refine ev_do i207_50 rfl ?_
        refine ev_icmp (t := 60) i207_51 rfl (fun c_9 => ?_) (fun c_9 => ?_)
        · replace hf := x_neg (show ¬ v_4 = 4 from c_9) hf
          refine ev_do i207_60 rfl ?_
          refine ev_do i207_61 rfl ?_
          refine ev_icmp (t := 71) i207_62 rfl (fun c_10 => ?_) (fun c_10 => ?_)
          · replace hf := x_neg (show ¬ v_4 = 5 from c_10) hf
            refine ev_do i207_71 (show xpush? 3 ((xtJ (xTa xs) 207 327).map .long) 71 _ _ _ = _ from by rw [w207_327]; rfl) ?_
            exact j207_74_ok hd rfl rfl hf
          · replace hf := x_pos (show v_4 = 5 from Decidable.byContradiction (fun h9 => c_10 h9)) hf
            refine ev_do i207_65 (show xpush? 3 ((xtJ (xTa xs) 207 325).map .long) 65 _ _ _ = _ from by rw [w207_325]; rfl) ?_
            refine sh_goto (t := 74) i207_68 rfl ?_
            exact j207_74_ok hd rfl rfl hf
        · replace hf := x_pos (show v_4 = 4 from Decidable.byContradiction (fun h9 => c_9 h9)) hf
          refine ev_do i207_54 (show xpush? 3 ((xtJ (xTa xs) 207 323).map .long) 54 _ _ _ = _ from by rw [w207_323]; rfl) ?_
          refine sh_goto (t := 74) i207_57 rfl ?_
          exact j207_74_ok hd rfl rfl hf
      · replace hf := x_pos (show v_4 = 3 from Decidable.byContradiction (fun h9 => c_8 h9)) hf
        refine ev_do i207_43 (show xpush? 3 ((xtJ (xTa xs) 207 321).map .long) 43 _ _ _ = _ from by rw [w207_321]; rfl) ?_
        refine sh_goto (t := 74) i207_46 rfl ?_
        exact j207_74_ok hd rfl rfl hf
    · replace hf := x_pos (show v_4 = 2 from Decidable.byContradiction (fun h9 => c_7 h9)) hf
      refine ev_do i207_32 (show xpush? 3 ((xtJ (xTa xs) 207 319).map .long) 32 _ _ _ = _ from by rw [w207_319]; rfl) ?_
      refine sh_goto (t := 74) i207_35 rfl ?_
      exact j207_74_ok hd rfl rfl hf
end
section
def j208_25  (o0 : Option Nat) (x1 : Int32) (s0 : Int32) (h : xH) : Option (Int32 × xH) := (xgR h o0 11 62).bind fun a_1 => (xaI h 13 a_1 x1).bind fun v_2 => some (s0 - v_2, h)
theorem j208_25_ok {xs : List Int32} {d : Nat} (hd : 1 ≤ d) {o0 : Option Nat} {x1 : Int32} {s0 : Int32} {h : xH} {r : (Int32 × xH)} (hf : j208_25 o0 x1 s0 h = some r) : xEv (xTa xs) d 208 (25, [xrv o0, .int x1], [.int s0], h) (some (.int r.1), r.2) := by
  unfold j208_25 at hf
  refine sh_aload (i' := 0) (n := 1) i208_25 (Or.inr ⟨rfl, by decide⟩) rfl ?_
  obtain ⟨a_1, ea_1, hf⟩ := x_bind hf
  refine sh_getR i208_26 f208_119 ea_1 ?_
  refine ev_do i208_29 rfl ?_
  obtain ⟨v_2, ev_2, hf⟩ := x_bind hf
  refine sh_aldI (tg := 13) i208_30 (Or.inl ⟨rfl, rfl⟩) ev_2 ?_
  refine ev_do i208_31 rfl ?_
  obtain rfl := Option.some.inj hf
  exact sh_iret i208_32 m208 rfl rfl
def fn208 (o0 : Option Nat) (x1 : Int32) (h : xH) : Option (Int32 × xH) := (xgI h o0 11 63).bind fun v_1 => (if v_1 ≤ (x1 + 1) then (xgI h o0 11 61).bind fun v_3 => j208_25 o0 x1 v_3 h else (xgR h o0 11 62).bind fun a_4 => (xaI h 13 a_4 (x1 + 1)).bind fun v_5 => j208_25 o0 x1 v_5 h)
theorem fn208_call {xs : List Int32} {d : Nat} (hd : 2 ≤ d) {o0 : Option Nat} {x1 : Int32} {h : xH} {r : (Int32 × xH)} (hf : fn208 o0 x1 h = some r) : xCall (xTa xs) d 208 [xrv o0, .int x1] h (some (.int r.1), r.2) := by
  obtain ⟨d, rfl⟩ : ∃ d2, d = d2 + 1 := ⟨d - 1, by omega⟩
  replace hd : 1 ≤ d := by omega
  refine call_of2 (fl := [xrv o0, .int x1]) (Ls := [xrv o0, .int x1]) m208 (by simp [xfl, xrv_cat, xc_i, xc_j, xc_a, xc_f]) (Nat.le_of_ble_eq_true rfl) rfl ?_
  unfold fn208 at hf
  refine ev_do i208_0 rfl ?_
  refine ev_do i208_1 rfl ?_
  refine ev_do i208_2 rfl ?_
  refine sh_aload (i' := 0) (n := 1) i208_3 (Or.inr ⟨rfl, by decide⟩) rfl ?_
  obtain ⟨v_1, ev_1, hf⟩ := x_bind hf
  refine sh_getI i208_4 f208_377 ev_1 ?_
  refine ev_icmp (t := 21) i208_7 rfl (fun c_2 => ?_) (fun c_2 => ?_)
  · replace hf := x_pos (show v_1 ≤ (x1 + 1) from c_2) hf
    refine sh_aload (i' := 0) (n := 1) i208_21 (Or.inr ⟨rfl, by decide⟩) rfl ?_
    obtain ⟨v_3, ev_3, hf⟩ := x_bind hf
    refine sh_getI i208_22 f208_380 ev_3 ?_
    exact j208_25_ok hd hf
  · replace hf := x_neg (show ¬ v_1 ≤ (x1 + 1) from c_2) hf
    refine sh_aload (i' := 0) (n := 1) i208_10 (Or.inr ⟨rfl, by decide⟩) rfl ?_
    obtain ⟨a_4, ea_4, hf⟩ := x_bind hf
    refine sh_getR i208_11 f208_119 ea_4 ?_
    refine ev_do i208_14 rfl ?_
    refine ev_do i208_15 rfl ?_
    refine ev_do i208_16 rfl ?_
    obtain ⟨v_5, ev_5, hf⟩ := x_bind hf
    refine sh_aldI (tg := 13) i208_17 (Or.inl ⟨rfl, rfl⟩) ev_5 ?_
    refine sh_goto (t := 25) i208_18 rfl ?_
    exact j208_25_ok hd hf
end
section
def j209_11  (o0 : Option Nat) (x1 : Int32) (s0 : Int32) (h : xH) : Option (Int32 × xH) := some (s0, h)
theorem j209_11_ok {xs : List Int32} {d : Nat} (hd : 1 ≤ d) {o0 : Option Nat} {x1 : Int32} {s0 : Int32} {h : xH} {r : (Int32 × xH)} (hf : j209_11 o0 x1 s0 h = some r) : xEv (xTa xs) d 209 (11, [xrv o0, .int x1], [.int s0], h) (some (.int r.1), r.2) := by
  unfold j209_11 at hf
  obtain rfl := Option.some.inj hf
  exact sh_iret i209_11 m209 rfl rfl
def fn209 (o0 : Option Nat) (x1 : Int32) (h : xH) : Option (Int32 × xH) := (if 0 ≤ x1 then j209_11 o0 x1 (x1 * x1) h else j209_11 o0 x1 0 h)
theorem fn209_call {xs : List Int32} {d : Nat} (hd : 2 ≤ d) {o0 : Option Nat} {x1 : Int32} {h : xH} {r : (Int32 × xH)} (hf : fn209 o0 x1 h = some r) : xCall (xTa xs) d 209 [xrv o0, .int x1] h (some (.int r.1), r.2) := by
  obtain ⟨d, rfl⟩ : ∃ d2, d = d2 + 1 := ⟨d - 1, by omega⟩
  replace hd : 1 ≤ d := by omega
  refine call_of2 (fl := [xrv o0, .int x1]) (Ls := [xrv o0, .int x1]) m209 (by simp [xfl, xrv_cat, xc_i, xc_j, xc_a, xc_f]) (Nat.le_of_ble_eq_true rfl) rfl ?_
  unfold fn209 at hf
  refine ev_do i209_0 rfl ?_
  refine ev_if (t := 8) i209_1 rfl (fun c_1 => ?_) (fun c_1 => ?_)
  · replace hf := x_pos (show 0 ≤ x1 from c_1) hf
    refine ev_do i209_8 rfl ?_
    refine ev_do i209_9 rfl ?_
    refine ev_do i209_10 rfl ?_
    exact j209_11_ok hd hf
  · replace hf := x_neg (show ¬ 0 ≤ x1 from c_1) hf
    refine ev_do i209_4 rfl ?_
    refine sh_goto (t := 11) i209_5 rfl ?_
    exact j209_11_ok hd hf
end
section
def j210_204 (k18 : Option Nat → Int32 → Int32 → Int32 → Int32 → Int32 → xH → Option xH) (o0 : Option Nat) (x1 : Int32) (x2 : Int32) (x3 : Int32) (x4 : Int32) (x5 : Int32) (x6 : Int32) (x7 : Int32) (x8 : Int32) (h : xH) : Option xH := k18 o0 x1 x2 x3 x4 (x5 + (-1)) h
theorem j210_204_ok {xs : List Int32} {d : Nat} (hd : 2 ≤ d) {k18 : Option Nat → Int32 → Int32 → Int32 → Int32 → Int32 → xH → Option xH} (hk18 : ∀ {u6 : Value} {u7 : Value} {u8 : Value} {u9 : Value} {o0 : Option Nat} {x1 : Int32} {x2 : Int32} {x3 : Int32} {x4 : Int32} {x5 : Int32} {h : xH} {r : xH}, u6.category = 1 → u7.category = 1 → u8.category = 1 → u9.category = 1 → k18 o0 x1 x2 x3 x4 x5 h = some r → xEv (xTa xs) d 210 (18, [xrv o0, .int x1, .int x2, .int x3, .int x4, .int x5, u6, u7, u8, u9], [], h) (none, r)) {u9 : Value} {o0 : Option Nat} {x1 : Int32} {x2 : Int32} {x3 : Int32} {x4 : Int32} {x5 : Int32} {x6 : Int32} {x7 : Int32} {x8 : Int32} {h : xH} {r : xH} (hu9 : u9.category = 1) (hf : j210_204 k18 o0 x1 x2 x3 x4 x5 x6 x7 x8 h = some r) : xEv (xTa xs) d 210 (204, [xrv o0, .int x1, .int x2, .int x3, .int x4, .int x5, .int x6, .int x7, .int x8, u9], [], h) (none, r) := by
  unfold j210_204 at hf
  refine sh_inc (i' := 5) i210_204 rfl (xokst_of (Nat.le_of_ble_eq_true rfl) rfl) rfl ?_
  refine sh_goto (t := 18) i210_207 rfl ?_
  exact hk18 rfl rfl rfl hu9 hf
def j210_198 (k18 : Option Nat → Int32 → Int32 → Int32 → Int32 → Int32 → xH → Option xH) (k50 : Option Nat → Int32 → Int32 → Int32 → Int32 → Int32 → Int32 → Int32 → Int32 → xH → Option xH) (o0 : Option Nat) (x1 : Int32) (x2 : Int32) (x3 : Int32) (x4 : Int32) (x5 : Int32) (x6 : Int32) (x7 : Int32) (x8 : Int32) (h : xH) : Option xH := k50 o0 x1 x2 x3 x4 x5 x6 x7 (x8 + 1) h
theorem j210_198_ok {xs : List Int32} {d : Nat} (hd : 2 ≤ d) {k18 : Option Nat → Int32 → Int32 → Int32 → Int32 → Int32 → xH → Option xH} {k50 : Option Nat → Int32 → Int32 → Int32 → Int32 → Int32 → Int32 → Int32 → Int32 → xH → Option xH} (hk18 : ∀ {u6 : Value} {u7 : Value} {u8 : Value} {u9 : Value} {o0 : Option Nat} {x1 : Int32} {x2 : Int32} {x3 : Int32} {x4 : Int32} {x5 : Int32} {h : xH} {r : xH}, u6.category = 1 → u7.category = 1 → u8.category = 1 → u9.category = 1 → k18 o0 x1 x2 x3 x4 x5 h = some r → xEv (xTa xs) d 210 (18, [xrv o0, .int x1, .int x2, .int x3, .int x4, .int x5, u6, u7, u8, u9], [], h) (none, r)) (hk50 : ∀ {u9 : Value} {o0 : Option Nat} {x1 : Int32} {x2 : Int32} {x3 : Int32} {x4 : Int32} {x5 : Int32} {x6 : Int32} {x7 : Int32} {x8 : Int32} {h : xH} {r : xH}, u9.category = 1 → k50 o0 x1 x2 x3 x4 x5 x6 x7 x8 h = some r → xEv (xTa xs) d 210 (50, [xrv o0, .int x1, .int x2, .int x3, .int x4, .int x5, .int x6, .int x7, .int x8, u9], [], h) (none, r)) {u9 : Value} {o0 : Option Nat} {x1 : Int32} {x2 : Int32} {x3 : Int32} {x4 : Int32} {x5 : Int32} {x6 : Int32} {x7 : Int32} {x8 : Int32} {h : xH} {r : xH} (hu9 : u9.category = 1) (hf : j210_198 k18 k50 o0 x1 x2 x3 x4 x5 x6 x7 x8 h = some r) : xEv (xTa xs) d 210 (198, [xrv o0, .int x1, .int x2, .int x3, .int x4, .int x5, .int x6, .int x7, .int x8, u9], [], h) (none, r) := by
  unfold j210_198 at hf
  refine sh_inc (i' := 8) i210_198 rfl (xokst_of (Nat.le_of_ble_eq_true rfl) rfl) rfl ?_
  refine sh_goto (t := 50) i210_201 rfl ?_
  exact hk50 hu9 hf
def j210_175 (k18 : Option Nat → Int32 → Int32 → Int32 → Int32 → Int32 → xH → Option xH) (k50 : Option Nat → Int32 → Int32 → Int32 → Int32 → Int32 → Int32 → Int32 → Int32 → xH → Option xH) (o0 : Option Nat) (x1 : Int32) (x2 : Int32) (x3 : Int32) (x4 : Int32) (x5 : Int32) (x6 : Int32) (x7 : Int32) (x8 : Int32) (x9 : Int32) (h : xH) : Option xH := (xgR h o0 11 64).bind fun a_1 => (xaS h 13 (fun x => x) a_1 x5 ((x8 - x5) + 1)).bind fun h_2 => (xgR h_2 o0 11 65).bind fun a_3 => (xaS h_2 13 (fun x => x) a_3 x5 x9).bind fun h_4 => j210_198 k18 k50 o0 x1 x2 x3 x4 x5 x6 x7 x8 h_4
theorem j210_175_ok {xs : List Int32} {d : Nat} (hd : 2 ≤ d) {k18 : Option Nat → Int32 → Int32 → Int32 → Int32 → Int32 → xH → Option xH} {k50 : Option Nat → Int32 → Int32 → Int32 → Int32 → Int32 → Int32 → Int32 → Int32 → xH → Option xH} (hk18 : ∀ {u6 : Value} {u7 : Value} {u8 : Value} {u9 : Value} {o0 : Option Nat} {x1 : Int32} {x2 : Int32} {x3 : Int32} {x4 : Int32} {x5 : Int32} {h : xH} {r : xH}, u6.category = 1 → u7.category = 1 → u8.category = 1 → u9.category = 1 → k18 o0 x1 x2 x3 x4 x5 h = some r → xEv (xTa xs) d 210 (18, [xrv o0, .int x1, .int x2, .int x3, .int x4, .int x5, u6, u7, u8, u9], [], h) (none, r)) (hk50 : ∀ {u9 : Value} {o0 : Option Nat} {x1 : Int32} {x2 : Int32} {x3 : Int32} {x4 : Int32} {x5 : Int32} {x6 : Int32} {x7 : Int32} {x8 : Int32} {h : xH} {r : xH}, u9.category = 1 → k50 o0 x1 x2 x3 x4 x5 x6 x7 x8 h = some r → xEv (xTa xs) d 210 (50, [xrv o0, .int x1, .int x2, .int x3, .int x4, .int x5, .int x6, .int x7, .int x8, u9], [], h) (none, r)) {o0 : Option Nat} {x1 : Int32} {x2 : Int32} {x3 : Int32} {x4 : Int32} {x5 : Int32} {x6 : Int32} {x7 : Int32} {x8 : Int32} {x9 : Int32} {h : xH} {r : xH} (hf : j210_175 k18 k50 o0 x1 x2 x3 x4 x5 x6 x7 x8 x9 h = some r) : xEv (xTa xs) d 210 (175, [xrv o0, .int x1, .int x2, .int x3, .int x4, .int x5, .int x6, .int x7, .int x8, .int x9], [], h) (none, r) := by
  unfold j210_175 at hf
  refine sh_aload (i' := 0) (n := 1) i210_175 (Or.inr ⟨rfl, by decide⟩) rfl ?_
  obtain ⟨a_1, ea_1, hf⟩ := x_bind hf
  refine sh_getR i210_176 f210_122 ea_1 ?_
  refine ev_do i210_179 rfl ?_
  refine ev_do i210_181 rfl ?_
  refine ev_do i210_183 rfl ?_
  refine ev_do i210_185 rfl ?_
  refine ev_do i210_186 rfl ?_
  refine ev_do i210_187 rfl ?_
  obtain ⟨h_2, eh_2, hf⟩ := x_bind hf
  refine sh_ast (tg := 13) i210_188 (Or.inl ⟨rfl, rfl, rfl⟩) eh_2 ?_
  refine sh_aload (i' := 0) (n := 1) i210_189 (Or.inr ⟨rfl, by decide⟩) rfl ?_
  obtain ⟨a_3, ea_3, hf⟩ := x_bind hf
  refine sh_getR i210_190 f210_125 ea_3 ?_
  refine ev_do i210_193 rfl ?_
  refine ev_do i210_195 rfl ?_
  obtain ⟨h_4, eh_4, hf⟩ := x_bind hf
  refine sh_ast (tg := 13) i210_197 (Or.inl ⟨rfl, rfl, rfl⟩) eh_4 ?_
  exact j210_198_ok hd hk18 hk50 rfl hf
def j210_146 (k18 : Option Nat → Int32 → Int32 → Int32 → Int32 → Int32 → xH → Option xH) (k50 : Option Nat → Int32 → Int32 → Int32 → Int32 → Int32 → Int32 → Int32 → Int32 → xH → Option xH) (o0 : Option Nat) (x1 : Int32) (x2 : Int32) (x3 : Int32) (x4 : Int32) (x5 : Int32) (x6 : Int32) (x7 : Int32) (x8 : Int32) (s0 : Int32) (h : xH) : Option xH := (if x4 = 0 then j210_175 k18 k50 o0 x1 x2 x3 x4 x5 x6 x7 x8 s0 h else (xgR h o0 11 64).bind fun a_2 => (xaI h 13 a_2 x5).bind fun v_3 => (if v_3 = 0 then j210_175 k18 k50 o0 x1 x2 x3 x4 x5 x6 x7 x8 s0 h else (xgR h o0 11 65).bind fun a_5 => (xaI h 13 a_5 x5).bind fun v_6 => (if v_6 < s0 then j210_198 k18 k50 o0 x1 x2 x3 x4 x5 x6 x7 x8 h else j210_175 k18 k50 o0 x1 x2 x3 x4 x5 x6 x7 x8 s0 h)))
theorem j210_146_ok {xs : List Int32} {d : Nat} (hd : 2 ≤ d) {k18 : Option Nat → Int32 → Int32 → Int32 → Int32 → Int32 → xH → Option xH} {k50 : Option Nat → Int32 → Int32 → Int32 → Int32 → Int32 → Int32 → Int32 → Int32 → xH → Option xH} (hk18 : ∀ {u6 : Value} {u7 : Value} {u8 : Value} {u9 : Value} {o0 : Option Nat} {x1 : Int32} {x2 : Int32} {x3 : Int32} {x4 : Int32} {x5 : Int32} {h : xH} {r : xH}, u6.category = 1 → u7.category = 1 → u8.category = 1 → u9.category = 1 → k18 o0 x1 x2 x3 x4 x5 h = some r → xEv (xTa xs) d 210 (18, [xrv o0, .int x1, .int x2, .int x3, .int x4, .int x5, u6, u7, u8, u9], [], h) (none, r)) (hk50 : ∀ {u9 : Value} {o0 : Option Nat} {x1 : Int32} {x2 : Int32} {x3 : Int32} {x4 : Int32} {x5 : Int32} {x6 : Int32} {x7 : Int32} {x8 : Int32} {h : xH} {r : xH}, u9.category = 1 → k50 o0 x1 x2 x3 x4 x5 x6 x7 x8 h = some r → xEv (xTa xs) d 210 (50, [xrv o0, .int x1, .int x2, .int x3, .int x4, .int x5, .int x6, .int x7, .int x8, u9], [], h) (none, r)) {u9 : Value} {o0 : Option Nat} {x1 : Int32} {x2 : Int32} {x3 : Int32} {x4 : Int32} {x5 : Int32} {x6 : Int32} {x7 : Int32} {x8 : Int32} {s0 : Int32} {h : xH} {r : xH} (hu9 : u9.category = 1) (hf : j210_146 k18 k50 o0 x1 x2 x3 x4 x5 x6 x7 x8 s0 h = some r) : xEv (xTa xs) d 210 (146, [xrv o0, .int x1, .int x2, .int x3, .int x4, .int x5, .int x6, .int x7, .int x8, u9], [.int s0], h) (none, r) := by
  unfold j210_146 at hf
  refine sh_istore (i' := 9) (n := 2) i210_146 (Or.inl rfl) (xokst_of (Nat.le_of_ble_eq_true rfl) rfl) ?_
  refine ev_do i210_148 rfl ?_
  refine ev_if (t := 175) i210_150 rfl (fun c_1 => ?_) (fun c_1 => ?_)
  · replace hf := x_pos (show x4 = 0 from c_1) hf
    exact j210_175_ok hd hk18 hk50 hf
  · replace hf := x_neg (show ¬ x4 = 0 from c_1) hf
    refine sh_aload (i' := 0) (n := 1) i210_153 (Or.inr ⟨rfl, by decide⟩) rfl ?_
    obtain ⟨a_2, ea_2, hf⟩ := x_bind hf
    refine sh_getR i210_154 f210_122 ea_2 ?_
    refine ev_do i210_157 rfl ?_
    obtain ⟨v_3, ev_3, hf⟩ := x_bind hf
    refine sh_aldI (tg := 13) i210_159 (Or.inl ⟨rfl, rfl⟩) ev_3 ?_
    refine ev_if (t := 175) i210_160 rfl (fun c_4 => ?_) (fun c_4 => ?_)
    · replace hf := x_pos (show v_3 = 0 from c_4) hf
      exact j210_175_ok hd hk18 hk50 hf
    · replace hf := x_neg (show ¬ v_3 = 0 from c_4) hf
      refine ev_do i210_163 rfl ?_
      refine sh_aload (i' := 0) (n := 1) i210_165 (Or.inr ⟨rfl, by decide⟩) rfl ?_
      obtain ⟨a_5, ea_5, hf⟩ := x_bind hf
      refine sh_getR i210_166 f210_125 ea_5 ?_
      refine ev_do i210_169 rfl ?_
      obtain ⟨v_6, ev_6, hf⟩ := x_bind hf
      refine sh_aldI (tg := 13) i210_171 (Or.inl ⟨rfl, rfl⟩) ev_6 ?_
      refine ev_icmp (t := 198) i210_172 rfl (fun c_7 => ?_) (fun c_7 => ?_)
      · replace hf := x_pos (show v_6 < s0 from c_7) hf
        exact j210_198_ok hd hk18 hk50 rfl hf
      · replace hf := x_neg (show ¬ v_6 < s0 from c_7) hf
        exact j210_175_ok hd hk18 hk50 hf
def j210_106 (k18 : Option Nat → Int32 → Int32 → Int32 → Int32 → Int32 → xH → Option xH) (k50 : Option Nat → Int32 → Int32 → Int32 → Int32 → Int32 → Int32 → Int32 → Int32 → xH → Option xH) (o0 : Option Nat) (x1 : Int32) (x2 : Int32) (x3 : Int32) (x4 : Int32) (x5 : Int32) (x6 : Int32) (x7 : Int32) (x8 : Int32) (s0 : Int32) (h : xH) : Option xH := (if s0 = 0 then j210_198 k18 k50 o0 x1 x2 x3 x4 x5 x6 s0 x8 h else (xgI h o0 11 63).bind fun v_2 => (if x8 = (v_2 - 1) then j210_146 k18 k50 o0 x1 x2 x3 x4 x5 x6 s0 x8 0 h else (xcv h o0 11).bind fun _ => (fn209 o0 (x1 - x6) h).bind fun r_4 => (xgR r_4.2 o0 11 65).bind fun a_5 => (xaI r_4.2 13 a_5 (x8 + 1)).bind fun v_6 => j210_146 k18 k50 o0 x1 x2 x3 x4 x5 x6 s0 x8 (r_4.1 + v_6) r_4.2))
theorem j210_106_ok {xs : List Int32} {d : Nat} (hd : 2 ≤ d) {k18 : Option Nat → Int32 → Int32 → Int32 → Int32 → Int32 → xH → Option xH} {k50 : Option Nat → Int32 → Int32 → Int32 → Int32 → Int32 → Int32 → Int32 → Int32 → xH → Option xH} (hk18 : ∀ {u6 : Value} {u7 : Value} {u8 : Value} {u9 : Value} {o0 : Option Nat} {x1 : Int32} {x2 : Int32} {x3 : Int32} {x4 : Int32} {x5 : Int32} {h : xH} {r : xH}, u6.category = 1 → u7.category = 1 → u8.category = 1 → u9.category = 1 → k18 o0 x1 x2 x3 x4 x5 h = some r → xEv (xTa xs) d 210 (18, [xrv o0, .int x1, .int x2, .int x3, .int x4, .int x5, u6, u7, u8, u9], [], h) (none, r)) (hk50 : ∀ {u9 : Value} {o0 : Option Nat} {x1 : Int32} {x2 : Int32} {x3 : Int32} {x4 : Int32} {x5 : Int32} {x6 : Int32} {x7 : Int32} {x8 : Int32} {h : xH} {r : xH}, u9.category = 1 → k50 o0 x1 x2 x3 x4 x5 x6 x7 x8 h = some r → xEv (xTa xs) d 210 (50, [xrv o0, .int x1, .int x2, .int x3, .int x4, .int x5, .int x6, .int x7, .int x8, u9], [], h) (none, r)) {u9 : Value} {o0 : Option Nat} {x1 : Int32} {x2 : Int32} {x3 : Int32} {x4 : Int32} {x5 : Int32} {x6 : Int32} {x7 : Int32} {x8 : Int32} {s0 : Int32} {h : xH} {r : xH} (hu9 : u9.category = 1) (hf : j210_106 k18 k50 o0 x1 x2 x3 x4 x5 x6 x7 x8 s0 h = some r) : xEv (xTa xs) d 210 (106, [xrv o0, .int x1, .int x2, .int x3, .int x4, .int x5, .int x6, .int x7, .int x8, u9], [.int s0], h) (none, r) := by
  unfold j210_106 at hf
  refine sh_istore (i' := 7) (n := 2) i210_106 (Or.inl rfl) (xokst_of (Nat.le_of_ble_eq_true rfl) rfl) ?_
  refine ev_do i210_108 rfl ?_
  refine ev_if (t := 198) i210_110 rfl (fun c_1 => ?_) (fun c_1 => ?_)
  · replace hf := x_pos (show s0 = 0 from c_1) hf
    exact j210_198_ok hd hk18 hk50 hu9 hf
  · replace hf := x_neg (show ¬ s0 = 0 from c_1) hf
    refine ev_do i210_113 rfl ?_
    refine sh_aload (i' := 0) (n := 1) i210_115 (Or.inr ⟨rfl, by decide⟩) rfl ?_
    obtain ⟨v_2, ev_2, hf⟩ := x_bind hf
    refine sh_getI i210_116 f210_377 ev_2 ?_
    refine ev_do i210_119 rfl ?_
    refine ev_do i210_120 rfl ?_
    refine ev_icmp (t := 128) i210_121 rfl (fun c_3 => ?_) (fun c_3 => ?_)
    · replace hf := x_neg (show ¬ x8 = (v_2 - 1) from c_3) hf
      refine sh_aload (i' := 0) (n := 1) i210_128 (Or.inr ⟨rfl, by decide⟩) rfl ?_
      refine ev_do i210_129 rfl ?_
      refine ev_do i210_130 rfl ?_
      refine ev_do i210_132 rfl ?_
      obtain ⟨_, eu_7, hf⟩ := x_bind hf
      obtain ⟨r_4, er_4, hf⟩ := x_bind hf
      refine sh_inv (as := [.int (x1 - x6)]) (z := (some (.int r_4.1), r_4.2)) i210_133 v210_405 (Or.inl ⟨by decide, rfl⟩) m209 rfl (Nat.le_of_ble_eq_true rfl) eu_7 (fn209_call (by omega) er_4) ?_
      refine sh_aload (i' := 0) (n := 1) i210_136 (Or.inr ⟨rfl, by decide⟩) rfl ?_
      obtain ⟨a_5, ea_5, hf⟩ := x_bind hf
      refine sh_getR i210_137 f210_125 ea_5 ?_
      refine ev_do i210_140 rfl ?_
      refine ev_do i210_142 rfl ?_
      refine ev_do i210_143 rfl ?_
      obtain ⟨v_6, ev_6, hf⟩ := x_bind hf
      refine sh_aldI (tg := 13) i210_144 (Or.inl ⟨rfl, rfl⟩) ev_6 ?_
      refine ev_do i210_145 rfl ?_
      exact j210_146_ok hd hk18 hk50 hu9 hf
    · replace hf := x_pos (show x8 = (v_2 - 1) from Decidable.byContradiction (fun h9 => c_3 h9)) hf
      refine ev_do i210_124 rfl ?_
      refine sh_goto (t := 146) i210_125 rfl ?_
      exact j210_146_ok hd hk18 hk50 hu9 hf
def j210_101 (k18 : Option Nat → Int32 → Int32 → Int32 → Int32 → Int32 → xH → Option xH) (k50 : Option Nat → Int32 → Int32 → Int32 → Int32 → Int32 → Int32 → Int32 → Int32 → xH → Option xH) (o0 : Option Nat) (x1 : Int32) (x2 : Int32) (x3 : Int32) (x4 : Int32) (x5 : Int32) (x6 : Int32) (x7 : Int32) (x8 : Int32) (h : xH) : Option xH := j210_106 k18 k50 o0 x1 x2 x3 x4 x5 x6 x7 x8 1 h
theorem j210_101_ok {xs : List Int32} {d : Nat} (hd : 2 ≤ d) {k18 : Option Nat → Int32 → Int32 → Int32 → Int32 → Int32 → xH → Option xH} {k50 : Option Nat → Int32 → Int32 → Int32 → Int32 → Int32 → Int32 → Int32 → Int32 → xH → Option xH} (hk18 : ∀ {u6 : Value} {u7 : Value} {u8 : Value} {u9 : Value} {o0 : Option Nat} {x1 : Int32} {x2 : Int32} {x3 : Int32} {x4 : Int32} {x5 : Int32} {h : xH} {r : xH}, u6.category = 1 → u7.category = 1 → u8.category = 1 → u9.category = 1 → k18 o0 x1 x2 x3 x4 x5 h = some r → xEv (xTa xs) d 210 (18, [xrv o0, .int x1, .int x2, .int x3, .int x4, .int x5, u6, u7, u8, u9], [], h) (none, r)) (hk50 : ∀ {u9 : Value} {o0 : Option Nat} {x1 : Int32} {x2 : Int32} {x3 : Int32} {x4 : Int32} {x5 : Int32} {x6 : Int32} {x7 : Int32} {x8 : Int32} {h : xH} {r : xH}, u9.category = 1 → k50 o0 x1 x2 x3 x4 x5 x6 x7 x8 h = some r → xEv (xTa xs) d 210 (50, [xrv o0, .int x1, .int x2, .int x3, .int x4, .int x5, .int x6, .int x7, .int x8, u9], [], h) (none, r)) {u9 : Value} {o0 : Option Nat} {x1 : Int32} {x2 : Int32} {x3 : Int32} {x4 : Int32} {x5 : Int32} {x6 : Int32} {x7 : Int32} {x8 : Int32} {h : xH} {r : xH} (hu9 : u9.category = 1) (hf : j210_101 k18 k50 o0 x1 x2 x3 x4 x5 x6 x7 x8 h = some r) : xEv (xTa xs) d 210 (101, [xrv o0, .int x1, .int x2, .int x3, .int x4, .int x5, .int x6, .int x7, .int x8, u9], [], h) (none, r) := by
  unfold j210_101 at hf
  refine ev_do i210_101 rfl ?_
  refine sh_goto (t := 106) i210_102 rfl ?_
  exact j210_106_ok hd hk18 hk50 hu9 hf
def j210_84 (k18 : Option Nat → Int32 → Int32 → Int32 → Int32 → Int32 → xH → Option xH) (k50 : Option Nat → Int32 → Int32 → Int32 → Int32 → Int32 → Int32 → Int32 → Int32 → xH → Option xH) (o0 : Option Nat) (x1 : Int32) (x2 : Int32) (x3 : Int32) (x4 : Int32) (x5 : Int32) (x6 : Int32) (x7 : Int32) (x8 : Int32) (s0 : Int32) (s1 : Int32) (s2 : Int32) (h : xH) : Option xH := (if x8 = x5 then j210_101 k18 k50 o0 x1 x2 x3 x4 x5 (s0 + (s1 + s2)) x7 x8 h else (if x1 < (s0 + (s1 + s2)) then j210_106 k18 k50 o0 x1 x2 x3 x4 x5 (s0 + (s1 + s2)) x7 x8 0 h else j210_101 k18 k50 o0 x1 x2 x3 x4 x5 (s0 + (s1 + s2)) x7 x8 h))
theorem j210_84_ok {xs : List Int32} {d : Nat} (hd : 2 ≤ d) {k18 : Option Nat → Int32 → Int32 → Int32 → Int32 → Int32 → xH → Option xH} {k50 : Option Nat → Int32 → Int32 → Int32 → Int32 → Int32 → Int32 → Int32 → Int32 → xH → Option xH} (hk18 : ∀ {u6 : Value} {u7 : Value} {u8 : Value} {u9 : Value} {o0 : Option Nat} {x1 : Int32} {x2 : Int32} {x3 : Int32} {x4 : Int32} {x5 : Int32} {h : xH} {r : xH}, u6.category = 1 → u7.category = 1 → u8.category = 1 → u9.category = 1 → k18 o0 x1 x2 x3 x4 x5 h = some r → xEv (xTa xs) d 210 (18, [xrv o0, .int x1, .int x2, .int x3, .int x4, .int x5, u6, u7, u8, u9], [], h) (none, r)) (hk50 : ∀ {u9 : Value} {o0 : Option Nat} {x1 : Int32} {x2 : Int32} {x3 : Int32} {x4 : Int32} {x5 : Int32} {x6 : Int32} {x7 : Int32} {x8 : Int32} {h : xH} {r : xH}, u9.category = 1 → k50 o0 x1 x2 x3 x4 x5 x6 x7 x8 h = some r → xEv (xTa xs) d 210 (50, [xrv o0, .int x1, .int x2, .int x3, .int x4, .int x5, .int x6, .int x7, .int x8, u9], [], h) (none, r)) {u9 : Value} {o0 : Option Nat} {x1 : Int32} {x2 : Int32} {x3 : Int32} {x4 : Int32} {x5 : Int32} {x6 : Int32} {x7 : Int32} {x8 : Int32} {s0 : Int32} {s1 : Int32} {s2 : Int32} {h : xH} {r : xH} (hu9 : u9.category = 1) (hf : j210_84 k18 k50 o0 x1 x2 x3 x4 x5 x6 x7 x8 s0 s1 s2 h = some r) : xEv (xTa xs) d 210 (84, [xrv o0, .int x1, .int x2, .int x3, .int x4, .int x5, .int x6, .int x7, .int x8, u9], [.int s2, .int s1, .int s0], h) (none, r) := by
  unfold j210_84 at hf
  refine ev_do i210_84 rfl ?_
  refine ev_do i210_85 rfl ?_
  refine sh_istore (i' := 6) (n := 2) i210_86 (Or.inl rfl) (xokst_of (Nat.le_of_ble_eq_true rfl) rfl) ?_
  refine ev_do i210_88 rfl ?_
  refine ev_do i210_90 rfl ?_
  refine ev_icmp (t := 101) i210_92 rfl (fun c_1 => ?_) (fun c_1 => ?_)
  · replace hf := x_pos (show x8 = x5 from c_1) hf
    exact j210_101_ok hd hk18 hk50 hu9 hf
  · replace hf := x_neg (show ¬ x8 = x5 from c_1) hf
    refine ev_do i210_95 rfl ?_
    refine ev_do i210_97 rfl ?_
    refine ev_icmp (t := 105) i210_98 rfl (fun c_2 => ?_) (fun c_2 => ?_)
    · replace hf := x_pos (show x1 < (s0 + (s1 + s2)) from c_2) hf
      refine ev_do i210_105 rfl ?_
      exact j210_106_ok hd hk18 hk50 hu9 hf
    · replace hf := x_neg (show ¬ x1 < (s0 + (s1 + s2)) from c_2) hf
      exact j210_101_ok hd hk18 hk50 hu9 hf
def l210_50 (k18 : Option Nat → Int32 → Int32 → Int32 → Int32 → Int32 → xH → Option xH) : Nat → Option Nat → Int32 → Int32 → Int32 → Int32 → Int32 → Int32 → Int32 → Int32 → xH → Option xH
  | 0 => fun _ _ _ _ _ _ _ _ _ _ => none
  | n + 1 => fun o0 x1 x2 x3 x4 x5 x6 x7 x8 h => (xgI h o0 11 63).bind fun v_1 => (if v_1 ≤ x8 then j210_204 k18 o0 x1 x2 x3 x4 x5 x6 x7 x8 h else (if x7 = 0 then j210_204 k18 o0 x1 x2 x3 x4 x5 x6 x7 x8 h else (xcv h o0 11).bind fun _ => (fn208 o0 x8 h).bind fun r_4 => (if x8 ≤ x5 then j210_84 k18 (l210_50 k18 n) o0 x1 x2 x3 x4 x5 x6 x7 x8 x6 r_4.1 0 r_4.2 else j210_84 k18 (l210_50 k18 n) o0 x1 x2 x3 x4 x5 x6 x7 x8 x6 r_4.1 1 r_4.2)))
theorem l210_50_ok {xs : List Int32} {d : Nat} (hd : 2 ≤ d) {k18 : Option Nat → Int32 → Int32 → Int32 → Int32 → Int32 → xH → Option xH} (hk18 : ∀ {u6 : Value} {u7 : Value} {u8 : Value} {u9 : Value} {o0 : Option Nat} {x1 : Int32} {x2 : Int32} {x3 : Int32} {x4 : Int32} {x5 : Int32} {h : xH} {r : xH}, u6.category = 1 → u7.category = 1 → u8.category = 1 → u9.category = 1 → k18 o0 x1 x2 x3 x4 x5 h = some r → xEv (xTa xs) d 210 (18, [xrv o0, .int x1, .int x2, .int x3, .int x4, .int x5, u6, u7, u8, u9], [], h) (none, r)) : ∀ (n : Nat) {u9 : Value} {o0 : Option Nat} {x1 : Int32} {x2 : Int32} {x3 : Int32} {x4 : Int32} {x5 : Int32} {x6 : Int32} {x7 : Int32} {x8 : Int32} {h : xH} {r : xH} (hu9 : u9.category = 1), l210_50 k18 n o0 x1 x2 x3 x4 x5 x6 x7 x8 h = some r → xEv (xTa xs) d 210 (50, [xrv o0, .int x1, .int x2, .int x3, .int x4, .int x5, .int x6, .int x7, .int x8, u9], [], h) (none, r) := by
  intro n
  induction n with
  | zero => intros; rename_i hf; cases hf
  | succ n ih =>
    intro u9 o0 x1 x2 x3 x4 x5 x6 x7 x8 h r hu9 hf
    replace hf : ((xgI h o0 11 63).bind fun v_1 => (if v_1 ≤ x8 then j210_204 k18 o0 x1 x2 x3 x4 x5 x6 x7 x8 h else (if x7 = 0 then j210_204 k18 o0 x1 x2 x3 x4 x5 x6 x7 x8 h else (xcv h o0 11).bind fun _ => (fn208 o0 x8 h).bind fun r_4 => (if x8 ≤ x5 then j210_84 k18 (l210_50 k18 n) o0 x1 x2 x3 x4 x5 x6 x7 x8 x6 r_4.1 0 r_4.2 else j210_84 k18 (l210_50 k18 n) o0 x1 x2 x3 x4 x5 x6 x7 x8 x6 r_4.1 1 r_4.2)))) = some r := hf
    refine ev_do i210_50 rfl ?_
    refine sh_aload (i' := 0) (n := 1) i210_52 (Or.inr ⟨rfl, by decide⟩) rfl ?_
    obtain ⟨v_1, ev_1, hf⟩ := x_bind hf
    refine sh_getI i210_53 f210_377 ev_1 ?_
    refine ev_icmp (t := 204) i210_56 rfl (fun c_2 => ?_) (fun c_2 => ?_)
    · replace hf := x_pos (show v_1 ≤ x8 from c_2) hf
      exact j210_204_ok hd hk18 hu9 hf
    · replace hf := x_neg (show ¬ v_1 ≤ x8 from c_2) hf
      refine ev_do i210_59 rfl ?_
      refine ev_if (t := 204) i210_61 rfl (fun c_3 => ?_) (fun c_3 => ?_)
      · replace hf := x_pos (show x7 = 0 from c_3) hf
        exact j210_204_ok hd hk18 hu9 hf
      · replace hf := x_neg (show ¬ x7 = 0 from c_3) hf
        refine ev_do i210_64 rfl ?_
        refine sh_aload (i' := 0) (n := 1) i210_66 (Or.inr ⟨rfl, by decide⟩) rfl ?_
        refine ev_do i210_67 rfl ?_
        obtain ⟨_, eu_6, hf⟩ := x_bind hf
        obtain ⟨r_4, er_4, hf⟩ := x_bind hf
        refine sh_inv (as := [.int x8]) (z := (some (.int r_4.1), r_4.2)) i210_69 v210_402 (Or.inl ⟨by decide, rfl⟩) m208 rfl (Nat.le_of_ble_eq_true rfl) eu_6 (fn208_call (by omega) er_4) ?_
        refine ev_do i210_72 rfl ?_
        refine ev_do i210_74 rfl ?_
        refine ev_icmp (t := 83) i210_76 rfl (fun c_5 => ?_) (fun c_5 => ?_)
        · replace hf := x_pos (show x8 ≤ x5 from c_5) hf
          refine ev_do i210_83 rfl ?_
          exact j210_84_ok hd hk18 ih hu9 hf
        · replace hf := x_neg (show ¬ x8 ≤ x5 from c_5) hf
          refine ev_do i210_79 rfl ?_
          refine sh_goto (t := 84) i210_80 rfl ?_
          exact j210_84_ok hd hk18 ih hu9 hf
def j210_33 (k18 : Option Nat → Int32 → Int32 → Int32 → Int32 → Int32 → xH → Option xH) (o0 : Option Nat) (x1 : Int32) (x2 : Int32) (x3 : Int32) (x4 : Int32) (x5 : Int32) (s0 : Int32) (h : xH) : Option xH := (xgR h o0 11 64).bind fun a_1 => (xaS h 13 (fun x => x) a_1 x5 0).bind fun h_2 => l210_50 k18 xFuel o0 x1 x2 x3 x4 x5 s0 1 x5 h_2
theorem j210_33_ok {xs : List Int32} {d : Nat} (hd : 2 ≤ d) {k18 : Option Nat → Int32 → Int32 → Int32 → Int32 → Int32 → xH → Option xH} (hk18 : ∀ {u6 : Value} {u7 : Value} {u8 : Value} {u9 : Value} {o0 : Option Nat} {x1 : Int32} {x2 : Int32} {x3 : Int32} {x4 : Int32} {x5 : Int32} {h : xH} {r : xH}, u6.category = 1 → u7.category = 1 → u8.category = 1 → u9.category = 1 → k18 o0 x1 x2 x3 x4 x5 h = some r → xEv (xTa xs) d 210 (18, [xrv o0, .int x1, .int x2, .int x3, .int x4, .int x5, u6, u7, u8, u9], [], h) (none, r)) {u6 : Value} {u7 : Value} {u8 : Value} {u9 : Value} {o0 : Option Nat} {x1 : Int32} {x2 : Int32} {x3 : Int32} {x4 : Int32} {x5 : Int32} {s0 : Int32} {h : xH} {r : xH} (hu6 : u6.category = 1) (hu7 : u7.category = 1) (hu8 : u8.category = 1) (hu9 : u9.category = 1) (hf : j210_33 k18 o0 x1 x2 x3 x4 x5 s0 h = some r) : xEv (xTa xs) d 210 (33, [xrv o0, .int x1, .int x2, .int x3, .int x4, .int x5, u6, u7, u8, u9], [.int s0], h) (none, r) := by
  unfold j210_33 at hf
  refine sh_istore (i' := 6) (n := 2) i210_33 (Or.inl rfl) (xokst_of (Nat.le_of_ble_eq_true rfl) rfl) ?_
  refine sh_aload (i' := 0) (n := 1) i210_35 (Or.inr ⟨rfl, by decide⟩) rfl ?_
  obtain ⟨a_1, ea_1, hf⟩ := x_bind hf
  refine sh_getR i210_36 f210_122 ea_1 ?_
  refine ev_do i210_39 rfl ?_
  refine ev_do i210_41 rfl ?_
  obtain ⟨h_2, eh_2, hf⟩ := x_bind hf
  refine sh_ast (tg := 13) i210_42 (Or.inl ⟨rfl, rfl, rfl⟩) eh_2 ?_
  refine ev_do i210_43 rfl ?_
  refine sh_istore (i' := 7) (n := 2) i210_44 (Or.inl rfl) (xokst_of (Nat.le_of_ble_eq_true rfl) rfl) ?_
  refine ev_do i210_46 rfl ?_
  refine sh_istore (i' := 8) (n := 2) i210_48 (Or.inl rfl) (xokst_of (Nat.le_of_ble_eq_true rfl) rfl) ?_
  exact l210_50_ok hd hk18 xFuel hu9 hf
def l210_18  : Nat → Option Nat → Int32 → Int32 → Int32 → Int32 → Int32 → xH → Option xH
  | 0 => fun _ _ _ _ _ _ _ => none
  | n + 1 => fun o0 x1 x2 x3 x4 x5 h => (if x5 < 0 then some h else (if x5 = 0 then j210_33 (l210_18 n) o0 x1 x2 x3 x4 x5 x2 h else j210_33 (l210_18 n) o0 x1 x2 x3 x4 x5 x3 h))
theorem l210_18_ok {xs : List Int32} {d : Nat} (hd : 2 ≤ d) : ∀ (n : Nat) {u6 : Value} {u7 : Value} {u8 : Value} {u9 : Value} {o0 : Option Nat} {x1 : Int32} {x2 : Int32} {x3 : Int32} {x4 : Int32} {x5 : Int32} {h : xH} {r : xH} (hu6 : u6.category = 1) (hu7 : u7.category = 1) (hu8 : u8.category = 1) (hu9 : u9.category = 1), l210_18 n o0 x1 x2 x3 x4 x5 h = some r → xEv (xTa xs) d 210 (18, [xrv o0, .int x1, .int x2, .int x3, .int x4, .int x5, u6, u7, u8, u9], [], h) (none, r) := by
  intro n
  induction n with
  | zero => intros; rename_i hf; cases hf
  | succ n ih =>
    intro u6 u7 u8 u9 o0 x1 x2 x3 x4 x5 h r hu6 hu7 hu8 hu9 hf
    replace hf : ((if x5 < 0 then some h else (if x5 = 0 then j210_33 (l210_18 n) o0 x1 x2 x3 x4 x5 x2 h else j210_33 (l210_18 n) o0 x1 x2 x3 x4 x5 x3 h))) = some r := hf
    refine ev_do i210_18 rfl ?_
    refine ev_if (t := 210) i210_20 rfl (fun c_1 => ?_) (fun c_1 => ?_)
    · replace hf := x_pos (show x5 < 0 from c_1) hf
      obtain rfl := Option.some.inj hf
      exact sh_vret i210_210 m210 rfl
    · replace hf := x_neg (show ¬ x5 < 0 from c_1) hf
      refine ev_do i210_23 rfl ?_
      refine ev_if (t := 32) i210_25 rfl (fun c_2 => ?_) (fun c_2 => ?_)
      · replace hf := x_neg (show ¬ x5 = 0 from c_2) hf
        refine ev_do i210_32 rfl ?_
        exact j210_33_ok hd ih hu6 hu7 hu8 hu9 hf
      · replace hf := x_pos (show x5 = 0 from Decidable.byContradiction (fun h9 => c_2 h9)) hf
        refine ev_do i210_28 rfl ?_
        refine sh_goto (t := 33) i210_29 rfl ?_
        exact j210_33_ok hd ih hu6 hu7 hu8 hu9 hf
def fn210 (o0 : Option Nat) (x1 : Int32) (x2 : Int32) (x3 : Int32) (x4 : Int32) (h : xH) : Option xH := (xgR h o0 11 65).bind fun a_1 => (xgI h o0 11 63).bind fun v_2 => (xaS h 13 (fun x => x) a_1 v_2 0).bind fun h_3 => (xgI h_3 o0 11 63).bind fun v_4 => l210_18 xFuel o0 x1 x2 x3 x4 (v_4 - 1) h_3
theorem fn210_call {xs : List Int32} {d : Nat} (hd : 3 ≤ d) {o0 : Option Nat} {x1 : Int32} {x2 : Int32} {x3 : Int32} {x4 : Int32} {h : xH} {r : xH} (hf : fn210 o0 x1 x2 x3 x4 h = some r) : xCall (xTa xs) d 210 [xrv o0, .int x1, .int x2, .int x3, .int x4] h (none, r) := by
  obtain ⟨d, rfl⟩ : ∃ d2, d = d2 + 1 := ⟨d - 1, by omega⟩
  replace hd : 2 ≤ d := by omega
  refine call_of2 (fl := [xrv o0, .int x1, .int x2, .int x3, .int x4]) (Ls := [xrv o0, .int x1, .int x2, .int x3, .int x4, .float 0, .float 0, .float 0, .float 0, .float 0]) m210 (by simp [xfl, xrv_cat, xc_i, xc_j, xc_a, xc_f]) (Nat.le_of_ble_eq_true rfl) rfl ?_
  unfold fn210 at hf
  refine sh_aload (i' := 0) (n := 1) i210_0 (Or.inr ⟨rfl, by decide⟩) rfl ?_
  obtain ⟨a_1, ea_1, hf⟩ := x_bind hf
  refine sh_getR i210_1 f210_125 ea_1 ?_
  refine sh_aload (i' := 0) (n := 1) i210_4 (Or.inr ⟨rfl, by decide⟩) rfl ?_
  obtain ⟨v_2, ev_2, hf⟩ := x_bind hf
  refine sh_getI i210_5 f210_377 ev_2 ?_
  refine ev_do i210_8 rfl ?_
  obtain ⟨h_3, eh_3, hf⟩ := x_bind hf
  refine sh_ast (tg := 13) i210_9 (Or.inl ⟨rfl, rfl, rfl⟩) eh_3 ?_
  refine sh_aload (i' := 0) (n := 1) i210_10 (Or.inr ⟨rfl, by decide⟩) rfl ?_
  obtain ⟨v_4, ev_4, hf⟩ := x_bind hf
  refine sh_getI i210_11 f210_377 ev_4 ?_
  refine ev_do i210_14 rfl ?_
  refine ev_do i210_15 rfl ?_
  refine sh_istore (i' := 5) (n := 2) i210_16 (Or.inl rfl) (xokst_of (Nat.le_of_ble_eq_true rfl) rfl) ?_
  exact l210_18_ok hd xFuel rfl rfl rfl rfl hf
end
