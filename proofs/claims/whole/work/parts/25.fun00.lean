theorem xc_i (x : Int32) : (Value.int x).category = 1 := rfl
theorem xc_j (x : Int64) : (Value.long x).category = 2 := rfl
theorem xc_a (k : Nat) : (Value.retAddr k).category = 1 := rfl
theorem xc_f (x : UInt32) : (Value.float x).category = 1 := rfl
def xush (x y : Int32) : Int32 := (x.toUInt32 >>> (y.toUInt32 &&& Int32.toUInt32 31)).toInt32
def xrem (x y : Int32) : Int32 := x - x / y * y
def xmax (x y : Int32) : Int32 := if x < y then y else x
def xmin (x y : Int32) : Int32 := if y < x then y else x
section XMM
variable {T : xT} {d mi pc idx ci mj : Nat} {L st : List Value} {h : xH} {r : xR} {x y : Int32}
theorem sh_max (hi : xtI T mi pc = some (.invokestatic idx, 3)) (hV : xtV T mi idx = some (7, mj, ci)) (hct : xcat st ≤ 8) (kk : xEv T d mi (pc + 3, L, .int (xmax x y) :: st, h) r) : xEv T d mi (pc, L, .int y :: .int x :: st, h) r := ev_max hi hV (Or.inl rfl) hct kk
theorem sh_min (hi : xtI T mi pc = some (.invokestatic idx, 3)) (hV : xtV T mi idx = some (8, mj, ci)) (hct : xcat st ≤ 8) (kk : xEv T d mi (pc + 3, L, .int (xmin x y) :: st, h) r) : xEv T d mi (pc, L, .int y :: .int x :: st, h) r := ev_max hi hV (Or.inr rfl) hct kk
theorem call_of2 {as fl Ls : List Value} {mt : xMt} (hM : xtM T mi = some mt) (hfl : xfl as = fl) (hn : fl.length ≤ mt.2.2.1) (hL : fl ++ List.replicate (mt.2.2.1 - fl.length) (.float 0) = Ls) (kk : xEv T d mi (0, Ls, [], h) r) : xCall T (d + 1) mi as h r := by
  subst hfl
  subst hL
  exact call_of hM hn kk
end XMM
section
def F95 (o0 : Option Nat) (x1 : Int32) (h : xH) : Option xH := (o0).bind fun a_1 => (xnA h 12 (.int 0) (xmax 0 x1)).bind fun h_2 => (xpF h_2 o0 9 0 (.array .byte) (xrv (some h.1))).bind fun h_3 => some h_3
theorem F95_call {xs : List Int32} {d : Nat} (hd : 2 ≤ d) {o0 : Option Nat} {x1 : Int32} {h : xH} {r : xH} (hf : F95 o0 x1 h = some r) : xCall (xTa xs) d 95 [xrv o0, .int x1] h (none, r) := by
  obtain ⟨d, rfl⟩ : ∃ d2, d = d2 + 1 := ⟨d - 1, by omega⟩
  replace hd : 1 ≤ d := by omega
  refine call_of2 (fl := [xrv o0, .int x1]) (Ls := [xrv o0, .int x1]) m95 (by simp [xfl, xrv_cat, xc_i, xc_j, xc_a, xc_f]) (Nat.le_of_ble_eq_true rfl) rfl ?_
  unfold F95 at hf
  refine sh_aload (i' := 0) (n := 1) i95_0 (Or.inr ⟨rfl, by decide⟩) rfl ?_
  obtain ⟨a_1, ea_1, hf⟩ := x_bind hf
  refine sh_obj i95_1 v95_3 (Nat.le_of_ble_eq_true rfl) ea_1 ?_
  refine sh_aload (i' := 0) (n := 1) i95_4 (Or.inr ⟨rfl, by decide⟩) rfl ?_
  refine ev_do i95_5 rfl ?_
  refine ev_do i95_6 rfl ?_
  refine sh_max i95_7 v95_9 (by simp [xcat, xrv_cat, xc_i, xc_j, xc_a, xc_f]) ?_
  obtain ⟨h_2, eh_2, hf⟩ := x_bind hf
  refine sh_newa (tg := 12) (n := 2) (v := (.int 0)) i95_10 (fun _ _ _ => rfl) eh_2 ?_
  obtain ⟨h_3, eh_3, hf⟩ := x_bind hf
  refine sh_put i95_12 f95_15 (by decide) rfl eh_3 ?_
  cases hf
  exact sh_vret i95_15 m95 rfl
end
section
def j96_26  (o0 : Option Nat) (x1 : Int32) (s0 : Int32) (h : xH) : Option (Int32 × xH) := some (s0, h)
theorem j96_26_ok {xs : List Int32} {d : Nat} (hd : 1 ≤ d) {o0 : Option Nat} {x1 : Int32} {s0 : Int32} {h : xH} {r : (Int32 × xH)} (hf : j96_26 o0 x1 s0 h = some r) : xEv (xTa xs) d 96 (26, [xrv o0, .int x1], [.int s0], h) (some (.int r.1), r.2) := by
  unfold j96_26 at hf
  cases hf
  exact sh_iret i96_26 m96 rfl rfl
def j96_12  (o0 : Option Nat) (x1 : Int32) (h : xH) : Option (Int32 × xH) := j96_26 o0 x1 (-1) h
theorem j96_12_ok {xs : List Int32} {d : Nat} (hd : 1 ≤ d) {o0 : Option Nat} {x1 : Int32} {h : xH} {r : (Int32 × xH)} (hf : j96_12 o0 x1 h = some r) : xEv (xTa xs) d 96 (12, [xrv o0, .int x1], [], h) (some (.int r.1), r.2) := by
  unfold j96_12 at hf
  refine ev_do i96_12 rfl ?_
  refine ev_do i96_13 rfl ?_
  exact j96_26_ok hd hf
def F96 (o0 : Option Nat) (x1 : Int32) (h : xH) : Option (Int32 × xH) := (if x1 < 0 then j96_12 o0 x1 h else (xgI h o0 9 1).bind fun v_2 => (if x1 < v_2 then (xgR h o0 9 0).bind fun a_4 => (xaI h 12 a_4 x1).bind fun v_5 => j96_26 o0 x1 (v_5 &&& 255) h else j96_12 o0 x1 h))
theorem F96_call {xs : List Int32} {d : Nat} (hd : 2 ≤ d) {o0 : Option Nat} {x1 : Int32} {h : xH} {r : (Int32 × xH)} (hf : F96 o0 x1 h = some r) : xCall (xTa xs) d 96 [xrv o0, .int x1] h (some (.int r.1), r.2) := by
  obtain ⟨d, rfl⟩ : ∃ d2, d = d2 + 1 := ⟨d - 1, by omega⟩
  replace hd : 1 ≤ d := by omega
  refine call_of2 (fl := [xrv o0, .int x1]) (Ls := [xrv o0, .int x1]) m96 (by simp [xfl, xrv_cat, xc_i, xc_j, xc_a, xc_f]) (Nat.le_of_ble_eq_true rfl) rfl ?_
  unfold F96 at hf
  refine ev_do i96_0 rfl ?_
  refine ev_if i96_1 rfl (fun c_1 => ?_) (fun c_1 => ?_)
  · replace hf := x_pos (show x1 < 0 from c_1) hf
    exact j96_12_ok hd hf
  · replace hf := x_neg (show ¬ x1 < 0 from c_1) hf
    refine ev_do i96_4 rfl ?_
    refine sh_aload (i' := 0) (n := 1) i96_5 (Or.inr ⟨rfl, by decide⟩) rfl ?_
    obtain ⟨v_2, ev_2, hf⟩ := x_bind hf
    refine sh_getI i96_6 f96_21 ev_2 ?_
    refine ev_icmp i96_9 rfl (fun c_3 => ?_) (fun c_3 => ?_)
    · replace hf := x_pos (show x1 < v_2 from c_3) hf
      refine sh_aload (i' := 0) (n := 1) i96_16 (Or.inr ⟨rfl, by decide⟩) rfl ?_
      obtain ⟨a_4, ea_4, hf⟩ := x_bind hf
      refine sh_getR i96_17 f96_15 ea_4 ?_
      refine ev_do i96_20 rfl ?_
      obtain ⟨v_5, ev_5, hf⟩ := x_bind hf
      refine sh_aldI (tg := 12) i96_21 (Or.inr (Or.inl ⟨rfl, rfl⟩)) ev_5 ?_
      refine ev_do i96_22 rfl ?_
      refine ev_do i96_25 rfl ?_
      exact j96_26_ok hd hf
    · replace hf := x_neg (show ¬ x1 < v_2 from c_3) hf
      exact j96_12_ok hd hf
end
section
def F97 (o0 : Option Nat) (x1 : Int32) (h : xH) : Option (Int32 × xH) := (xgI h o0 9 1).bind fun v_1 => (xgR h o0 9 0).bind fun a_2 => (xaN h a_2).bind fun v_3 => (if v_1 < v_3 then (xgR h o0 9 0).bind fun a_5 => (xgI h o0 9 1).bind fun v_6 => (xaS h 12 (vp_nar .byte) a_5 v_6 x1.toInt8.toInt32).bind fun h_7 => (xgI h_7 o0 9 1).bind fun v_8 => (xpF h_7 o0 9 1 .int (.int (v_8 + 1))).bind fun h_9 => some (1, h_9) else some (0, h))
theorem F97_call {xs : List Int32} {d : Nat} (hd : 2 ≤ d) {o0 : Option Nat} {x1 : Int32} {h : xH} {r : (Int32 × xH)} (hf : F97 o0 x1 h = some r) : xCall (xTa xs) d 97 [xrv o0, .int x1] h (some (.int r.1), r.2) := by
  obtain ⟨d, rfl⟩ : ∃ d2, d = d2 + 1 := ⟨d - 1, by omega⟩
  replace hd : 1 ≤ d := by omega
  refine call_of2 (fl := [xrv o0, .int x1]) (Ls := [xrv o0, .int x1]) m97 (by simp [xfl, xrv_cat, xc_i, xc_j, xc_a, xc_f]) (Nat.le_of_ble_eq_true rfl) rfl ?_
  unfold F97 at hf
  refine sh_aload (i' := 0) (n := 1) i97_0 (Or.inr ⟨rfl, by decide⟩) rfl ?_
  obtain ⟨v_1, ev_1, hf⟩ := x_bind hf
  refine sh_getI i97_1 f97_21 ev_1 ?_
  refine sh_aload (i' := 0) (n := 1) i97_4 (Or.inr ⟨rfl, by decide⟩) rfl ?_
  obtain ⟨a_2, ea_2, hf⟩ := x_bind hf
  refine sh_getR i97_5 f97_15 ea_2 ?_
  obtain ⟨v_3, ev_3, hf⟩ := x_bind hf
  refine sh_len i97_8 ev_3 ?_
  refine ev_icmp i97_9 rfl (fun c_4 => ?_) (fun c_4 => ?_)
  · replace hf := x_pos (show v_1 < v_3 from c_4) hf
    refine sh_aload (i' := 0) (n := 1) i97_14 (Or.inr ⟨rfl, by decide⟩) rfl ?_
    obtain ⟨a_5, ea_5, hf⟩ := x_bind hf
    refine sh_getR i97_15 f97_15 ea_5 ?_
    refine sh_aload (i' := 0) (n := 1) i97_18 (Or.inr ⟨rfl, by decide⟩) rfl ?_
    obtain ⟨v_6, ev_6, hf⟩ := x_bind hf
    refine sh_getI i97_19 f97_21 ev_6 ?_
    refine ev_do i97_22 rfl ?_
    refine ev_do i97_23 rfl ?_
    obtain ⟨h_7, eh_7, hf⟩ := x_bind hf
    refine sh_ast (tg := 12) i97_24 (Or.inr (Or.inl ⟨rfl, rfl, rfl⟩)) eh_7 ?_
    refine sh_aload (i' := 0) (n := 1) i97_25 (Or.inr ⟨rfl, by decide⟩) rfl ?_
    refine sh_dup i97_26 (xrv_cat _) ?_
    obtain ⟨v_8, ev_8, hf⟩ := x_bind hf
    refine sh_getI i97_27 f97_21 ev_8 ?_
    refine ev_do i97_30 rfl ?_
    refine ev_do i97_31 rfl ?_
    obtain ⟨h_9, eh_9, hf⟩ := x_bind hf
    refine sh_put i97_32 f97_21 (by decide) rfl eh_9 ?_
    refine ev_do i97_35 rfl ?_
    cases hf
    exact sh_iret i97_36 m97 rfl (by decide)
  · replace hf := x_neg (show ¬ v_1 < v_3 from c_4) hf
    refine ev_do i97_12 rfl ?_
    cases hf
    exact sh_iret i97_13 m97 rfl (by decide)
end
section
def l98_3  : Nat → Option Nat → Int32 → Int32 → xH → Option xH
  | 0 => fun _ _ _ _ => none
  | n + 1 => fun o0 x1 x2 h => (if x2 < 0 then some h else (xcv h o0 9).bind fun _ => (F97 o0 (xush x1 x2) h).bind fun r_2 => l98_3 n o0 x1 (x2 + (-8)) r_2.2)
theorem l98_3_ok {xs : List Int32} {d : Nat} (hd : 2 ≤ d) : ∀ (n : Nat) {o0 : Option Nat} {x1 : Int32} {x2 : Int32} {h : xH} {r : xH}, l98_3 n o0 x1 x2 h = some r → xEv (xTa xs) d 98 (3, [xrv o0, .int x1, .int x2], [], h) (none, r) := by
  intro n
  induction n with
  | zero => intros; rename_i hf; cases hf
  | succ n ih =>
    intro o0 x1 x2 h r hf
    replace hf : (if x2 < 0 then some h else (xcv h o0 9).bind fun _ => (F97 o0 (xush x1 x2) h).bind fun r_2 => l98_3 n o0 x1 (x2 + (-8)) r_2.2) = some r := hf
    refine ev_do i98_3 rfl ?_
    refine ev_if i98_4 rfl (fun c_1 => ?_) (fun c_1 => ?_)
    · replace hf := x_pos (show x2 < 0 from c_1) hf
      cases hf
      exact sh_vret i98_21 m98 rfl
    · replace hf := x_neg (show ¬ x2 < 0 from c_1) hf
      refine sh_aload (i' := 0) (n := 1) i98_7 (Or.inr ⟨rfl, by decide⟩) rfl ?_
      refine ev_do i98_8 rfl ?_
      refine ev_do i98_9 rfl ?_
      refine ev_do i98_10 rfl ?_
      obtain ⟨_, eu_3, hf⟩ := x_bind hf
      obtain ⟨r_2, er_2, hf⟩ := x_bind hf
      refine sh_inv (as := [.int (xush x1 x2)]) (z := (some (.int r_2.1), r_2.2)) i98_11 v98_25 (Or.inl ⟨by decide, rfl⟩) m97 rfl (Nat.le_of_ble_eq_true rfl) eu_3 (F97_call (by omega) er_2) ?_
      refine sh_pop i98_14 rfl ?_
      refine sh_inc (i' := 2) i98_15 rfl (xokst_of (Nat.le_of_ble_eq_true rfl) rfl) rfl ?_
      refine ev_do i98_18 rfl ?_
      exact ih hf
def F98 (o0 : Option Nat) (x1 : Int32) (h : xH) : Option xH := l98_3 xFuel o0 x1 24 h
theorem F98_call {xs : List Int32} {d : Nat} (hd : 3 ≤ d) {o0 : Option Nat} {x1 : Int32} {h : xH} {r : xH} (hf : F98 o0 x1 h = some r) : xCall (xTa xs) d 98 [xrv o0, .int x1] h (none, r) := by
  obtain ⟨d, rfl⟩ : ∃ d2, d = d2 + 1 := ⟨d - 1, by omega⟩
  replace hd : 2 ≤ d := by omega
  refine call_of2 (fl := [xrv o0, .int x1]) (Ls := [xrv o0, .int x1, .float 0]) m98 (by simp [xfl, xrv_cat, xc_i, xc_j, xc_a, xc_f]) (Nat.le_of_ble_eq_true rfl) rfl ?_
  unfold F98 at hf
  refine ev_do i98_0 rfl ?_
  refine sh_istore (i' := 2) (n := 1) i98_2 (Or.inr ⟨rfl, by decide⟩) (xokst_of (Nat.le_of_ble_eq_true rfl) rfl) ?_
  exact l98_3_ok hd xFuel hf
end
section
def j101_17  (o0 : Option Nat) (x1 : Int32) (h : xH) : Option xH := some h
theorem j101_17_ok {xs : List Int32} {d : Nat} (hd : 1 ≤ d) {o0 : Option Nat} {x1 : Int32} {h : xH} {r : xH} (hf : j101_17 o0 x1 h = some r) : xEv (xTa xs) d 101 (17, [xrv o0, .int x1], [], h) (none, r) := by
  unfold j101_17 at hf
  cases hf
  exact sh_vret i101_17 m101 rfl
def F101 (o0 : Option Nat) (x1 : Int32) (h : xH) : Option xH := (if x1 < 0 then j101_17 o0 x1 h else (xgI h o0 9 1).bind fun v_2 => (if v_2 ≤ x1 then j101_17 o0 x1 h else (xpF h o0 9 1 .int (.int x1)).bind fun h_4 => j101_17 o0 x1 h_4))
theorem F101_call {xs : List Int32} {d : Nat} (hd : 2 ≤ d) {o0 : Option Nat} {x1 : Int32} {h : xH} {r : xH} (hf : F101 o0 x1 h = some r) : xCall (xTa xs) d 101 [xrv o0, .int x1] h (none, r) := by
  obtain ⟨d, rfl⟩ : ∃ d2, d = d2 + 1 := ⟨d - 1, by omega⟩
  replace hd : 1 ≤ d := by omega
  refine call_of2 (fl := [xrv o0, .int x1]) (Ls := [xrv o0, .int x1]) m101 (by simp [xfl, xrv_cat, xc_i, xc_j, xc_a, xc_f]) (Nat.le_of_ble_eq_true rfl) rfl ?_
  unfold F101 at hf
  refine ev_do i101_0 rfl ?_
  refine ev_if i101_1 rfl (fun c_1 => ?_) (fun c_1 => ?_)
  · replace hf := x_pos (show x1 < 0 from c_1) hf
    exact j101_17_ok hd hf
  · replace hf := x_neg (show ¬ x1 < 0 from c_1) hf
    refine ev_do i101_4 rfl ?_
    refine sh_aload (i' := 0) (n := 1) i101_5 (Or.inr ⟨rfl, by decide⟩) rfl ?_
    obtain ⟨v_2, ev_2, hf⟩ := x_bind hf
    refine sh_getI i101_6 f101_21 ev_2 ?_
    refine ev_icmp i101_9 rfl (fun c_3 => ?_) (fun c_3 => ?_)
    · replace hf := x_pos (show v_2 ≤ x1 from c_3) hf
      exact j101_17_ok hd hf
    · replace hf := x_neg (show ¬ v_2 ≤ x1 from c_3) hf
      refine sh_aload (i' := 0) (n := 1) i101_12 (Or.inr ⟨rfl, by decide⟩) rfl ?_
      refine ev_do i101_13 rfl ?_
      obtain ⟨h_4, eh_4, hf⟩ := x_bind hf
      refine sh_put i101_14 f101_21 (by decide) rfl eh_4 ?_
      exact j101_17_ok hd hf
end
section
def j136_17  (x0 : Int32) (s0 : Int32) (h : xH) : Option (Int32 × xH) := (if s0 &&& 1 = s0 then some (s0, h) else none)
theorem j136_17_ok {xs : List Int32} {d : Nat} (hd : 1 ≤ d) {x0 : Int32} {s0 : Int32} {h : xH} {r : (Int32 × xH)} (hf : j136_17 x0 s0 h = some r) : xEv (xTa xs) d 136 (17, [.int x0], [.int s0], h) (some (.int r.1), r.2) := by
  unfold j136_17 at hf
  by_cases c_1 : s0 &&& 1 = s0
  · replace hf := x_pos c_1 hf
    cases hf
    exact sh_iret i136_17 m136 rfl (congrArg Value.int c_1)
  · replace hf := x_neg c_1 hf
    cases hf
def j136_16  (x0 : Int32) (h : xH) : Option (Int32 × xH) := j136_17 x0 0 h
theorem j136_16_ok {xs : List Int32} {d : Nat} (hd : 1 ≤ d) {x0 : Int32} {h : xH} {r : (Int32 × xH)} (hf : j136_16 x0 h = some r) : xEv (xTa xs) d 136 (16, [.int x0], [], h) (some (.int r.1), r.2) := by
  unfold j136_16 at hf
  refine ev_do i136_16 rfl ?_
  exact j136_17_ok hd hf
def F136 (x0 : Int32) (h : xH) : Option (Int32 × xH) := (if x0 < 48 then j136_16 x0 h else (if 57 < x0 then j136_16 x0 h else j136_17 x0 1 h))
theorem F136_call {xs : List Int32} {d : Nat} (hd : 2 ≤ d) {x0 : Int32} {h : xH} {r : (Int32 × xH)} (hf : F136 x0 h = some r) : xCall (xTa xs) d 136 [.int x0] h (some (.int r.1), r.2) := by
  obtain ⟨d, rfl⟩ : ∃ d2, d = d2 + 1 := ⟨d - 1, by omega⟩
  replace hd : 1 ≤ d := by omega
  refine call_of2 (fl := [.int x0]) (Ls := [.int x0]) m136 (by simp [xfl, xrv_cat, xc_i, xc_j, xc_a, xc_f]) (Nat.le_of_ble_eq_true rfl) rfl ?_
  unfold F136 at hf
  refine ev_do i136_0 rfl ?_
  refine ev_do i136_1 rfl ?_
  refine ev_icmp i136_3 rfl (fun c_1 => ?_) (fun c_1 => ?_)
  · replace hf := x_pos (show x0 < 48 from c_1) hf
    exact j136_16_ok hd hf
  · replace hf := x_neg (show ¬ x0 < 48 from c_1) hf
    refine ev_do i136_6 rfl ?_
    refine ev_do i136_7 rfl ?_
    refine ev_icmp i136_9 rfl (fun c_2 => ?_) (fun c_2 => ?_)
    · replace hf := x_pos (show 57 < x0 from c_2) hf
      exact j136_16_ok hd hf
    · replace hf := x_neg (show ¬ 57 < x0 from c_2) hf
      refine ev_do i136_12 rfl ?_
      refine ev_do i136_13 rfl ?_
      exact j136_17_ok hd hf
end
section
def j137_29  (x0 : Int32) (s0 : Int32) (h : xH) : Option (Int32 × xH) := (if s0 &&& 1 = s0 then some (s0, h) else none)
theorem j137_29_ok {xs : List Int32} {d : Nat} (hd : 1 ≤ d) {x0 : Int32} {s0 : Int32} {h : xH} {r : (Int32 × xH)} (hf : j137_29 x0 s0 h = some r) : xEv (xTa xs) d 137 (29, [.int x0], [.int s0], h) (some (.int r.1), r.2) := by
  unfold j137_29 at hf
  by_cases c_1 : s0 &&& 1 = s0
  · replace hf := x_pos c_1 hf
    cases hf
    exact sh_iret i137_29 m137 rfl (congrArg Value.int c_1)
  · replace hf := x_neg c_1 hf
    cases hf
def j137_28  (x0 : Int32) (h : xH) : Option (Int32 × xH) := j137_29 x0 0 h
theorem j137_28_ok {xs : List Int32} {d : Nat} (hd : 1 ≤ d) {x0 : Int32} {h : xH} {r : (Int32 × xH)} (hf : j137_28 x0 h = some r) : xEv (xTa xs) d 137 (28, [.int x0], [], h) (some (.int r.1), r.2) := by
  unfold j137_28 at hf
  refine ev_do i137_28 rfl ?_
  exact j137_29_ok hd hf
def j137_24  (x0 : Int32) (h : xH) : Option (Int32 × xH) := j137_29 x0 1 h
theorem j137_24_ok {xs : List Int32} {d : Nat} (hd : 1 ≤ d) {x0 : Int32} {h : xH} {r : (Int32 × xH)} (hf : j137_24 x0 h = some r) : xEv (xTa xs) d 137 (24, [.int x0], [], h) (some (.int r.1), r.2) := by
  unfold j137_24 at hf
  refine ev_do i137_24 rfl ?_
  refine ev_do i137_25 rfl ?_
  exact j137_29_ok hd hf
def j137_12  (x0 : Int32) (h : xH) : Option (Int32 × xH) := (if x0 < 97 then j137_28 x0 h else (if 122 < x0 then j137_28 x0 h else j137_24 x0 h))
theorem j137_12_ok {xs : List Int32} {d : Nat} (hd : 1 ≤ d) {x0 : Int32} {h : xH} {r : (Int32 × xH)} (hf : j137_12 x0 h = some r) : xEv (xTa xs) d 137 (12, [.int x0], [], h) (some (.int r.1), r.2) := by
  unfold j137_12 at hf
  refine ev_do i137_12 rfl ?_
  refine ev_do i137_13 rfl ?_
  refine ev_icmp i137_15 rfl (fun c_1 => ?_) (fun c_1 => ?_)
  · replace hf := x_pos (show x0 < 97 from c_1) hf
    exact j137_28_ok hd hf
  · replace hf := x_neg (show ¬ x0 < 97 from c_1) hf
    refine ev_do i137_18 rfl ?_
    refine ev_do i137_19 rfl ?_
    refine ev_icmp i137_21 rfl (fun c_2 => ?_) (fun c_2 => ?_)
    · replace hf := x_pos (show 122 < x0 from c_2) hf
      exact j137_28_ok hd hf
    · replace hf := x_neg (show ¬ 122 < x0 from c_2) hf
      exact j137_24_ok hd hf
def F137 (x0 : Int32) (h : xH) : Option (Int32 × xH) := (if x0 < 65 then j137_12 x0 h else (if x0 ≤ 90 then j137_24 x0 h else j137_12 x0 h))
theorem F137_call {xs : List Int32} {d : Nat} (hd : 2 ≤ d) {x0 : Int32} {h : xH} {r : (Int32 × xH)} (hf : F137 x0 h = some r) : xCall (xTa xs) d 137 [.int x0] h (some (.int r.1), r.2) := by
  obtain ⟨d, rfl⟩ : ∃ d2, d = d2 + 1 := ⟨d - 1, by omega⟩
  replace hd : 1 ≤ d := by omega
  refine call_of2 (fl := [.int x0]) (Ls := [.int x0]) m137 (by simp [xfl, xrv_cat, xc_i, xc_j, xc_a, xc_f]) (Nat.le_of_ble_eq_true rfl) rfl ?_
  unfold F137 at hf
  refine ev_do i137_0 rfl ?_
  refine ev_do i137_1 rfl ?_
  refine ev_icmp i137_3 rfl (fun c_1 => ?_) (fun c_1 => ?_)
  · replace hf := x_pos (show x0 < 65 from c_1) hf
    exact j137_12_ok hd hf
  · replace hf := x_neg (show ¬ x0 < 65 from c_1) hf
    refine ev_do i137_6 rfl ?_
    refine ev_do i137_7 rfl ?_
    refine ev_icmp i137_9 rfl (fun c_2 => ?_) (fun c_2 => ?_)
    · replace hf := x_pos (show x0 ≤ 90 from c_2) hf
      exact j137_24_ok hd hf
    · replace hf := x_neg (show ¬ x0 ≤ 90 from c_2) hf
      exact j137_12_ok hd hf
end
section
def j107_68  (o0 : Option Nat) (x1 : Int32) (x2 : Int32) (x3 : Int32) (s0 : Int32) (h : xH) : Option (Int32 × xH) := (if s0 &&& 1 = s0 then some (s0, h) else none)
theorem j107_68_ok {xs : List Int32} {d : Nat} (hd : 2 ≤ d) {o0 : Option Nat} {x1 : Int32} {x2 : Int32} {x3 : Int32} {s0 : Int32} {h : xH} {r : (Int32 × xH)} (hf : j107_68 o0 x1 x2 x3 s0 h = some r) : xEv (xTa xs) d 107 (68, [xrv o0, .int x1, .int x2, .int x3], [.int s0], h) (some (.int r.1), r.2) := by
  unfold j107_68 at hf
  by_cases c_1 : s0 &&& 1 = s0
  · replace hf := x_pos c_1 hf
    cases hf
    exact sh_iret i107_68 m107 rfl (congrArg Value.int c_1)
  · replace hf := x_neg c_1 hf
    cases hf
def j107_52 (k23 : Option Nat → Int32 → Int32 → Int32 → xH → Option (Int32 × xH)) (o0 : Option Nat) (x1 : Int32) (x2 : Int32) (x3 : Int32) (h : xH) : Option (Int32 × xH) := k23 o0 x1 x2 (x3 + 1) h
theorem j107_52_ok {xs : List Int32} {d : Nat} (hd : 2 ≤ d) {k23 : Option Nat → Int32 → Int32 → Int32 → xH → Option (Int32 × xH)} (hk23 : ∀ {o0 : Option Nat} {x1 : Int32} {x2 : Int32} {x3 : Int32} {h : xH} {r : (Int32 × xH)}, k23 o0 x1 x2 x3 h = some r → xEv (xTa xs) d 107 (23, [xrv o0, .int x1, .int x2, .int x3], [], h) (some (.int r.1), r.2)) {o0 : Option Nat} {x1 : Int32} {x2 : Int32} {x3 : Int32} {h : xH} {r : (Int32 × xH)} (hf : j107_52 k23 o0 x1 x2 x3 h = some r) : xEv (xTa xs) d 107 (52, [xrv o0, .int x1, .int x2, .int x3], [], h) (some (.int r.1), r.2) := by
  unfold j107_52 at hf
  refine sh_inc (i' := 3) i107_52 rfl (xokst_of (Nat.le_of_ble_eq_true rfl) rfl) rfl ?_
  refine ev_do i107_55 rfl ?_
  exact hk23 hf
def l107_23  : Nat → Option Nat → Int32 → Int32 → Int32 → xH → Option (Int32 × xH)
  | 0 => fun _ _ _ _ _ => none
  | n + 1 => fun o0 x1 x2 x3 h => (if x2 ≤ x3 then (if x2 ≤ x1 then j107_68 o0 x1 x2 x3 0 h else j107_68 o0 x1 x2 x3 1 h) else (xcv h o0 9).bind fun _ => (F96 o0 x3 h).bind fun r_3 => (F137 r_3.1 r_3.2).bind fun r_4 => (if r_4.1 = 0 then (xcv r_4.2 o0 9).bind fun _ => (F96 o0 x3 r_4.2).bind fun r_6 => (F136 r_6.1 r_6.2).bind fun r_7 => (if r_7.1 = 0 then some (0, r_7.2) else j107_52 (l107_23 n) o0 x1 x2 x3 r_7.2) else j107_52 (l107_23 n) o0 x1 x2 x3 r_4.2))
theorem l107_23_ok {xs : List Int32} {d : Nat} (hd : 2 ≤ d) : ∀ (n : Nat) {o0 : Option Nat} {x1 : Int32} {x2 : Int32} {x3 : Int32} {h : xH} {r : (Int32 × xH)}, l107_23 n o0 x1 x2 x3 h = some r → xEv (xTa xs) d 107 (23, [xrv o0, .int x1, .int x2, .int x3], [], h) (some (.int r.1), r.2) := by
  intro n
  induction n with
  | zero => intros; rename_i hf; cases hf
  | succ n ih =>
    intro o0 x1 x2 x3 h r hf
    replace hf : (if x2 ≤ x3 then (if x2 ≤ x1 then j107_68 o0 x1 x2 x3 0 h else j107_68 o0 x1 x2 x3 1 h) else (xcv h o0 9).bind fun _ => (F96 o0 x3 h).bind fun r_3 => (F137 r_3.1 r_3.2).bind fun r_4 => (if r_4.1 = 0 then (xcv r_4.2 o0 9).bind fun _ => (F96 o0 x3 r_4.2).bind fun r_6 => (F136 r_6.1 r_6.2).bind fun r_7 => (if r_7.1 = 0 then some (0, r_7.2) else j107_52 (l107_23 n) o0 x1 x2 x3 r_7.2) else j107_52 (l107_23 n) o0 x1 x2 x3 r_4.2)) = some r := hf
    refine ev_do i107_23 rfl ?_
    refine ev_do i107_24 rfl ?_
    refine ev_icmp i107_25 rfl (fun c_1 => ?_) (fun c_1 => ?_)
    · replace hf := x_pos (show x2 ≤ x3 from c_1) hf
      refine ev_do i107_58 rfl ?_
      refine ev_do i107_59 rfl ?_
      refine ev_icmp i107_60 rfl (fun c_2 => ?_) (fun c_2 => ?_)
      · replace hf := x_pos (show x2 ≤ x1 from c_2) hf
        refine ev_do i107_67 rfl ?_
        exact j107_68_ok hd hf
      · replace hf := x_neg (show ¬ x2 ≤ x1 from c_2) hf
        refine ev_do i107_63 rfl ?_
        refine ev_do i107_64 rfl ?_
        exact j107_68_ok hd hf
    · replace hf := x_neg (show ¬ x2 ≤ x3 from c_1) hf
      refine sh_aload (i' := 0) (n := 1) i107_28 (Or.inr ⟨rfl, by decide⟩) rfl ?_
      refine ev_do i107_29 rfl ?_
      obtain ⟨_, eu_10, hf⟩ := x_bind hf
      obtain ⟨r_3, er_3, hf⟩ := x_bind hf
      refine sh_inv (as := [.int x3]) (z := (some (.int r_3.1), r_3.2)) i107_30 v107_39 (Or.inl ⟨by decide, rfl⟩) m96 rfl (Nat.le_of_ble_eq_true rfl) eu_10 (F96_call (by omega) er_3) ?_
      obtain ⟨r_4, er_4, hf⟩ := x_bind hf
      refine ev_sta (as := [.int r_3.1]) (z := (some (.int r_4.1), r_4.2)) i107_33 v107_47 (Or.inr rfl) m137 rfl (Nat.le_of_ble_eq_true rfl) (F137_call (by omega) er_4) ?_
      refine ev_if i107_36 rfl (fun c_5 => ?_) (fun c_5 => ?_)
      · replace hf := x_neg (show ¬ r_4.1 = 0 from c_5) hf
        exact j107_52_ok hd ih hf
      · replace hf := x_pos (show r_4.1 = 0 from Decidable.byContradiction (fun h9 => c_5 h9)) hf
        refine sh_aload (i' := 0) (n := 1) i107_39 (Or.inr ⟨rfl, by decide⟩) rfl ?_
        refine ev_do i107_40 rfl ?_
        obtain ⟨_, eu_9, hf⟩ := x_bind hf
        obtain ⟨r_6, er_6, hf⟩ := x_bind hf
        refine sh_inv (as := [.int x3]) (z := (some (.int r_6.1), r_6.2)) i107_41 v107_39 (Or.inl ⟨by decide, rfl⟩) m96 rfl (Nat.le_of_ble_eq_true rfl) eu_9 (F96_call (by omega) er_6) ?_
        obtain ⟨r_7, er_7, hf⟩ := x_bind hf
        refine ev_sta (as := [.int r_6.1]) (z := (some (.int r_7.1), r_7.2)) i107_44 v107_50 (Or.inr rfl) m136 rfl (Nat.le_of_ble_eq_true rfl) (F136_call (by omega) er_7) ?_
        refine ev_if i107_47 rfl (fun c_8 => ?_) (fun c_8 => ?_)
        · replace hf := x_neg (show ¬ r_7.1 = 0 from c_8) hf
          exact j107_52_ok hd ih hf
        · replace hf := x_pos (show r_7.1 = 0 from Decidable.byContradiction (fun h9 => c_8 h9)) hf
          refine ev_do i107_50 rfl ?_
          cases hf
          exact sh_iret i107_51 m107 rfl (by decide)
def j107_19  (o0 : Option Nat) (x1 : Int32) (x2 : Int32) (h : xH) : Option (Int32 × xH) := some (0, h)
theorem j107_19_ok {xs : List Int32} {d : Nat} (hd : 2 ≤ d) {u3 : Value} {o0 : Option Nat} {x1 : Int32} {x2 : Int32} {h : xH} {r : (Int32 × xH)} (hu3 : u3.category = 1) (hf : j107_19 o0 x1 x2 h = some r) : xEv (xTa xs) d 107 (19, [xrv o0, .int x1, .int x2, u3], [], h) (some (.int r.1), r.2) := by
  unfold j107_19 at hf
  refine ev_do i107_19 rfl ?_
  cases hf
  exact sh_iret i107_20 m107 rfl (by decide)
def F107 (o0 : Option Nat) (x1 : Int32) (x2 : Int32) (h : xH) : Option (Int32 × xH) := (if 10 < (x2 - x1) then j107_19 o0 x1 x2 h else (xcv h o0 9).bind fun _ => (F96 o0 x1 h).bind fun r_2 => (F137 r_2.1 r_2.2).bind fun r_3 => (if r_3.1 = 0 then j107_19 o0 x1 x2 r_3.2 else l107_23 xFuel o0 x1 x2 x1 r_3.2))
theorem F107_call {xs : List Int32} {d : Nat} (hd : 3 ≤ d) {o0 : Option Nat} {x1 : Int32} {x2 : Int32} {h : xH} {r : (Int32 × xH)} (hf : F107 o0 x1 x2 h = some r) : xCall (xTa xs) d 107 [xrv o0, .int x1, .int x2] h (some (.int r.1), r.2) := by
  obtain ⟨d, rfl⟩ : ∃ d2, d = d2 + 1 := ⟨d - 1, by omega⟩
  replace hd : 2 ≤ d := by omega
  refine call_of2 (fl := [xrv o0, .int x1, .int x2]) (Ls := [xrv o0, .int x1, .int x2, .float 0]) m107 (by simp [xfl, xrv_cat, xc_i, xc_j, xc_a, xc_f]) (Nat.le_of_ble_eq_true rfl) rfl ?_
  unfold F107 at hf
  refine ev_do i107_0 rfl ?_
  refine ev_do i107_1 rfl ?_
  refine ev_do i107_2 rfl ?_
  refine ev_do i107_3 rfl ?_
  refine ev_icmp i107_5 rfl (fun c_1 => ?_) (fun c_1 => ?_)
  · replace hf := x_pos (show 10 < (x2 - x1) from c_1) hf
    exact j107_19_ok hd rfl hf
  · replace hf := x_neg (show ¬ 10 < (x2 - x1) from c_1) hf
    refine sh_aload (i' := 0) (n := 1) i107_8 (Or.inr ⟨rfl, by decide⟩) rfl ?_
    refine ev_do i107_9 rfl ?_
    obtain ⟨_, eu_5, hf⟩ := x_bind hf
    obtain ⟨r_2, er_2, hf⟩ := x_bind hf
    refine sh_inv (as := [.int x1]) (z := (some (.int r_2.1), r_2.2)) i107_10 v107_39 (Or.inl ⟨by decide, rfl⟩) m96 rfl (Nat.le_of_ble_eq_true rfl) eu_5 (F96_call (by omega) er_2) ?_
    obtain ⟨r_3, er_3, hf⟩ := x_bind hf
    refine ev_sta (as := [.int r_2.1]) (z := (some (.int r_3.1), r_3.2)) i107_13 v107_47 (Or.inr rfl) m137 rfl (Nat.le_of_ble_eq_true rfl) (F137_call (by omega) er_3) ?_
    refine ev_if i107_16 rfl (fun c_4 => ?_) (fun c_4 => ?_)
    · replace hf := x_neg (show ¬ r_3.1 = 0 from c_4) hf
      refine ev_do i107_21 rfl ?_
      refine sh_istore (i' := 3) (n := 1) i107_22 (Or.inr ⟨rfl, by decide⟩) (xokst_of (Nat.le_of_ble_eq_true rfl) rfl) ?_
      exact l107_23_ok hd xFuel hf
    · replace hf := x_pos (show r_3.1 = 0 from Decidable.byContradiction (fun h9 => c_4 h9)) hf
      exact j107_19_ok hd rfl hf
end
section
def j135_15  (x0 : Int32) (x1 : Int32) (x2 : Int32) (s0 : Int32) (h : xH) : Option (Int32 × xH) := (if s0 &&& 1 = s0 then some (s0, h) else none)
theorem j135_15_ok {xs : List Int32} {d : Nat} (hd : 1 ≤ d) {x0 : Int32} {x1 : Int32} {x2 : Int32} {s0 : Int32} {h : xH} {r : (Int32 × xH)} (hf : j135_15 x0 x1 x2 s0 h = some r) : xEv (xTa xs) d 135 (15, [.int x0, .int x1, .int x2], [.int s0], h) (some (.int r.1), r.2) := by
  unfold j135_15 at hf
  by_cases c_1 : s0 &&& 1 = s0
  · replace hf := x_pos c_1 hf
    cases hf
    exact sh_iret i135_15 m135 rfl (congrArg Value.int c_1)
  · replace hf := x_neg c_1 hf
    cases hf
def j135_14  (x0 : Int32) (x1 : Int32) (x2 : Int32) (h : xH) : Option (Int32 × xH) := j135_15 x0 x1 x2 0 h
theorem j135_14_ok {xs : List Int32} {d : Nat} (hd : 1 ≤ d) {x0 : Int32} {x1 : Int32} {x2 : Int32} {h : xH} {r : (Int32 × xH)} (hf : j135_14 x0 x1 x2 h = some r) : xEv (xTa xs) d 135 (14, [.int x0, .int x1, .int x2], [], h) (some (.int r.1), r.2) := by
  unfold j135_14 at hf
  refine ev_do i135_14 rfl ?_
  exact j135_15_ok hd hf
def F135 (x0 : Int32) (x1 : Int32) (x2 : Int32) (h : xH) : Option (Int32 × xH) := (if x0 < x1 then j135_14 x0 x1 x2 h else (if x2 < x0 then j135_14 x0 x1 x2 h else j135_15 x0 x1 x2 1 h))
theorem F135_call {xs : List Int32} {d : Nat} (hd : 2 ≤ d) {x0 : Int32} {x1 : Int32} {x2 : Int32} {h : xH} {r : (Int32 × xH)} (hf : F135 x0 x1 x2 h = some r) : xCall (xTa xs) d 135 [.int x0, .int x1, .int x2] h (some (.int r.1), r.2) := by
  obtain ⟨d, rfl⟩ : ∃ d2, d = d2 + 1 := ⟨d - 1, by omega⟩
  replace hd : 1 ≤ d := by omega
  refine call_of2 (fl := [.int x0, .int x1, .int x2]) (Ls := [.int x0, .int x1, .int x2]) m135 (by simp [xfl, xrv_cat, xc_i, xc_j, xc_a, xc_f]) (Nat.le_of_ble_eq_true rfl) rfl ?_
  unfold F135 at hf
  refine ev_do i135_0 rfl ?_
  refine ev_do i135_1 rfl ?_
  refine ev_icmp i135_2 rfl (fun c_1 => ?_) (fun c_1 => ?_)
  · replace hf := x_pos (show x0 < x1 from c_1) hf
    exact j135_14_ok hd hf
  · replace hf := x_neg (show ¬ x0 < x1 from c_1) hf
    refine ev_do i135_5 rfl ?_
    refine ev_do i135_6 rfl ?_
    refine ev_icmp i135_7 rfl (fun c_2 => ?_) (fun c_2 => ?_)
    · replace hf := x_pos (show x2 < x0 from c_2) hf
      exact j135_14_ok hd hf
    · replace hf := x_neg (show ¬ x2 < x0 from c_2) hf
      refine ev_do i135_10 rfl ?_
      refine ev_do i135_11 rfl ?_
      exact j135_15_ok hd hf
end
section
def j108_30  (o0 : Option Nat) (x1 : Int32) (x2 : Int32) (s0 : Int32) (h : xH) : Option (Int32 × xH) := (if s0 &&& 1 = s0 then some (s0, h) else none)
theorem j108_30_ok {xs : List Int32} {d : Nat} (hd : 3 ≤ d) {o0 : Option Nat} {x1 : Int32} {x2 : Int32} {s0 : Int32} {h : xH} {r : (Int32 × xH)} (hf : j108_30 o0 x1 x2 s0 h = some r) : xEv (xTa xs) d 108 (30, [xrv o0, .int x1, .int x2], [.int s0], h) (some (.int r.1), r.2) := by
  unfold j108_30 at hf
  by_cases c_1 : s0 &&& 1 = s0
  · replace hf := x_pos c_1 hf
    cases hf
    exact sh_iret i108_30 m108 rfl (congrArg Value.int c_1)
  · replace hf := x_neg c_1 hf
    cases hf
def j108_29  (o0 : Option Nat) (x1 : Int32) (x2 : Int32) (h : xH) : Option (Int32 × xH) := j108_30 o0 x1 x2 0 h
theorem j108_29_ok {xs : List Int32} {d : Nat} (hd : 3 ≤ d) {o0 : Option Nat} {x1 : Int32} {x2 : Int32} {h : xH} {r : (Int32 × xH)} (hf : j108_29 o0 x1 x2 h = some r) : xEv (xTa xs) d 108 (29, [xrv o0, .int x1, .int x2], [], h) (some (.int r.1), r.2) := by
  unfold j108_29 at hf
  refine ev_do i108_29 rfl ?_
  exact j108_30_ok hd hf
def F108 (o0 : Option Nat) (x1 : Int32) (x2 : Int32) (h : xH) : Option (Int32 × xH) := (xgI h o0 9 1).bind fun v_1 => (xcv h o0 9).bind fun _ => (F107 o0 0 v_1 h).bind fun r_2 => (if r_2.1 = 0 then j108_29 o0 x1 x2 r_2.2 else (xcv r_2.2 o0 9).bind fun _ => (F96 o0 0 r_2.2).bind fun r_4 => (F135 r_4.1 x1 x2 r_4.2).bind fun r_5 => (if r_5.1 = 0 then j108_29 o0 x1 x2 r_5.2 else j108_30 o0 x1 x2 1 r_5.2))
theorem F108_call {xs : List Int32} {d : Nat} (hd : 4 ≤ d) {o0 : Option Nat} {x1 : Int32} {x2 : Int32} {h : xH} {r : (Int32 × xH)} (hf : F108 o0 x1 x2 h = some r) : xCall (xTa xs) d 108 [xrv o0, .int x1, .int x2] h (some (.int r.1), r.2) := by
  obtain ⟨d, rfl⟩ : ∃ d2, d = d2 + 1 := ⟨d - 1, by omega⟩
  replace hd : 3 ≤ d := by omega
  refine call_of2 (fl := [xrv o0, .int x1, .int x2]) (Ls := [xrv o0, .int x1, .int x2]) m108 (by simp [xfl, xrv_cat, xc_i, xc_j, xc_a, xc_f]) (Nat.le_of_ble_eq_true rfl) rfl ?_
  unfold F108 at hf
  refine sh_aload (i' := 0) (n := 1) i108_0 (Or.inr ⟨rfl, by decide⟩) rfl ?_
  refine ev_do i108_1 rfl ?_
  refine sh_aload (i' := 0) (n := 1) i108_2 (Or.inr ⟨rfl, by decide⟩) rfl ?_
  obtain ⟨v_1, ev_1, hf⟩ := x_bind hf
  refine sh_getI i108_3 f108_21 ev_1 ?_
  obtain ⟨_, eu_8, hf⟩ := x_bind hf
  obtain ⟨r_2, er_2, hf⟩ := x_bind hf
  refine sh_inv (as := [.int v_1, .int 0]) (z := (some (.int r_2.1), r_2.2)) i108_6 v108_53 (Or.inl ⟨by decide, rfl⟩) m107 rfl (Nat.le_of_ble_eq_true rfl) eu_8 (F107_call (by omega) er_2) ?_
  refine ev_if i108_9 rfl (fun c_3 => ?_) (fun c_3 => ?_)
  · replace hf := x_pos (show r_2.1 = 0 from c_3) hf
    exact j108_29_ok hd hf
  · replace hf := x_neg (show ¬ r_2.1 = 0 from c_3) hf
    refine sh_aload (i' := 0) (n := 1) i108_12 (Or.inr ⟨rfl, by decide⟩) rfl ?_
    refine ev_do i108_13 rfl ?_
    obtain ⟨_, eu_7, hf⟩ := x_bind hf
    obtain ⟨r_4, er_4, hf⟩ := x_bind hf
    refine sh_inv (as := [.int 0]) (z := (some (.int r_4.1), r_4.2)) i108_14 v108_39 (Or.inl ⟨by decide, rfl⟩) m96 rfl (Nat.le_of_ble_eq_true rfl) eu_7 (F96_call (by omega) er_4) ?_
    refine ev_do i108_17 rfl ?_
    refine ev_do i108_18 rfl ?_
    obtain ⟨r_5, er_5, hf⟩ := x_bind hf
    refine ev_sta (as := [.int x2, .int x1, .int r_4.1]) (z := (some (.int r_5.1), r_5.2)) i108_19 v108_57 (Or.inr rfl) m135 rfl (Nat.le_of_ble_eq_true rfl) (F135_call (by omega) er_5) ?_
    refine ev_if i108_22 rfl (fun c_6 => ?_) (fun c_6 => ?_)
    · replace hf := x_pos (show r_5.1 = 0 from c_6) hf
      exact j108_29_ok hd hf
    · replace hf := x_neg (show ¬ r_5.1 = 0 from c_6) hf
      refine ev_do i108_25 rfl ?_
      refine ev_do i108_26 rfl ?_
      exact j108_30_ok hd hf
end
