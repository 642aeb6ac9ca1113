section
def j161_26  (x0 : Int32) (s0 : Int32) (h : xH) : Option (Int32 × xH) := (if s0 &&& 1 = s0 then some (s0, h) else none)
theorem j161_26_ok {xs : List Int32} {d : Nat} (hd : 2 ≤ d) {x0 : Int32} {s0 : Int32} {h : xH} {r : (Int32 × xH)} (hf : j161_26 x0 s0 h = some r) : xEv (xTa xs) d 161 (26, [.int x0], [.int s0], h) (some (.int r.1), r.2) := by
  unfold j161_26 at hf
  by_cases c_1 : s0 &&& 1 = s0
  · replace hf := x_pos c_1 hf
    obtain rfl := Option.some.inj hf
    exact sh_iret i161_26 m161 rfl (congrArg Value.int c_1)
  · replace hf := x_neg c_1 hf
    cases hf
def j161_21  (x0 : Int32) (h : xH) : Option (Int32 × xH) := j161_26 x0 1 h
theorem j161_21_ok {xs : List Int32} {d : Nat} (hd : 2 ≤ d) {x0 : Int32} {h : xH} {r : (Int32 × xH)} (hf : j161_21 x0 h = some r) : xEv (xTa xs) d 161 (21, [.int x0], [], h) (some (.int r.1), r.2) := by
  unfold j161_21 at hf
  refine ev_do i161_21 rfl ?_
  refine sh_goto (t := 26) i161_22 rfl ?_
  exact j161_26_ok hd hf
def fn161 (x0 : Int32) (h : xH) : Option (Int32 × xH) := (fn145 x0 h).bind fun r_1 => (if r_1.1 = 0 then (fn146 x0 r_1.2).bind fun r_3 => (if r_3.1 = 0 then (fn147 x0 r_3.2).bind fun r_5 => (if r_5.1 = 0 then j161_26 x0 0 r_5.2 else j161_21 x0 r_5.2) else j161_21 x0 r_3.2) else j161_21 x0 r_1.2)
theorem fn161_call {xs : List Int32} {d : Nat} (hd : 3 ≤ d) {x0 : Int32} {h : xH} {r : (Int32 × xH)} (hf : fn161 x0 h = some r) : xCall (xTa xs) d 161 [.int x0] h (some (.int r.1), r.2) := by
  obtain ⟨d, rfl⟩ : ∃ d2, d = d2 + 1 := ⟨d - 1, by omega⟩
  replace hd : 2 ≤ d := by omega
  refine call_of2 (fl := [.int x0]) (Ls := [.int x0]) m161 (by simp [xfl, xrv_cat, xc_i, xc_j, xc_a, xc_f]) (Nat.le_of_ble_eq_true rfl) rfl ?_
  unfold fn161 at hf
  refine ev_do i161_0 rfl ?_
  obtain ⟨r_1, er_1, hf⟩ := x_bind hf
  refine ev_sta (as := [.int x0]) (z := (some (.int r_1.1), r_1.2)) i161_1 v161_165 (Or.inl rfl) m145 rfl (Nat.le_of_ble_eq_true rfl) (fn145_call (by omega) er_1) ?_
  refine ev_if (t := 21) i161_4 rfl (fun c_2 => ?_) (fun c_2 => ?_)
  · replace hf := x_neg (show ¬ r_1.1 = 0 from c_2) hf
    exact j161_21_ok hd hf
  · replace hf := x_pos (show r_1.1 = 0 from Decidable.byContradiction (fun h9 => c_2 h9)) hf
    refine ev_do i161_7 rfl ?_
    obtain ⟨r_3, er_3, hf⟩ := x_bind hf
    refine ev_sta (as := [.int x0]) (z := (some (.int r_3.1), r_3.2)) i161_8 v161_168 (Or.inl rfl) m146 rfl (Nat.le_of_ble_eq_true rfl) (fn146_call (by omega) er_3) ?_
    refine ev_if (t := 21) i161_11 rfl (fun c_4 => ?_) (fun c_4 => ?_)
    · replace hf := x_neg (show ¬ r_3.1 = 0 from c_4) hf
      exact j161_21_ok hd hf
    · replace hf := x_pos (show r_3.1 = 0 from Decidable.byContradiction (fun h9 => c_4 h9)) hf
      refine ev_do i161_14 rfl ?_
      obtain ⟨r_5, er_5, hf⟩ := x_bind hf
      refine ev_sta (as := [.int x0]) (z := (some (.int r_5.1), r_5.2)) i161_15 v161_171 (Or.inl rfl) m147 rfl (Nat.le_of_ble_eq_true rfl) (fn147_call (by omega) er_5) ?_
      refine ev_if (t := 25) i161_18 rfl (fun c_6 => ?_) (fun c_6 => ?_)
      · replace hf := x_pos (show r_5.1 = 0 from c_6) hf
        refine ev_do i161_25 rfl ?_
        exact j161_26_ok hd hf
      · replace hf := x_neg (show ¬ r_5.1 = 0 from c_6) hf
        exact j161_21_ok hd hf
end
section
def j162_51  (o0 : Option Nat) (x1 : Int32) (x2 : Int32) (x3 : Int32) (s0 : Int32) (h : xH) : Option (Int32 × xH) := some (s0, h)
theorem j162_51_ok {xs : List Int32} {d : Nat} (hd : 3 ≤ d) {o0 : Option Nat} {x1 : Int32} {x2 : Int32} {x3 : Int32} {s0 : Int32} {h : xH} {r : (Int32 × xH)} (hf : j162_51 o0 x1 x2 x3 s0 h = some r) : xEv (xTa xs) d 162 (51, [xrv o0, .int x1, .int x2, .int x3], [.int s0], h) (some (.int r.1), r.2) := by
  unfold j162_51 at hf
  obtain rfl := Option.some.inj hf
  exact sh_iret i162_51 m162 rfl rfl
def j162_46  (o0 : Option Nat) (x1 : Int32) (x2 : Int32) (x3 : Int32) (h : xH) : Option (Int32 × xH) := j162_51 o0 x1 x2 x3 0 h
theorem j162_46_ok {xs : List Int32} {d : Nat} (hd : 3 ≤ d) {o0 : Option Nat} {x1 : Int32} {x2 : Int32} {x3 : Int32} {h : xH} {r : (Int32 × xH)} (hf : j162_46 o0 x1 x2 x3 h = some r) : xEv (xTa xs) d 162 (46, [xrv o0, .int x1, .int x2, .int x3], [], h) (some (.int r.1), r.2) := by
  unfold j162_46 at hf
  refine ev_do i162_46 rfl ?_
  refine sh_goto (t := 51) i162_47 rfl ?_
  exact j162_51_ok hd hf
def j162_26  (o0 : Option Nat) (x1 : Int32) (x2 : Int32) (x3 : Int32) (h : xH) : Option (Int32 × xH) := (if x3 < 1 then j162_46 o0 x1 x2 x3 h else (if 10 < x3 then j162_46 o0 x1 x2 x3 h else (xaI h 13 o0 x1).bind fun v_3 => (fn147 v_3 h).bind fun r_4 => (if r_4.1 = 0 then j162_51 o0 x1 x2 x3 x3 r_4.2 else j162_46 o0 x1 x2 x3 r_4.2)))
theorem j162_26_ok {xs : List Int32} {d : Nat} (hd : 3 ≤ d) {o0 : Option Nat} {x1 : Int32} {x2 : Int32} {x3 : Int32} {h : xH} {r : (Int32 × xH)} (hf : j162_26 o0 x1 x2 x3 h = some r) : xEv (xTa xs) d 162 (26, [xrv o0, .int x1, .int x2, .int x3], [], h) (some (.int r.1), r.2) := by
  unfold j162_26 at hf
  refine ev_do i162_26 rfl ?_
  refine ev_do i162_27 rfl ?_
  refine ev_icmp (t := 46) i162_28 rfl (fun c_1 => ?_) (fun c_1 => ?_)
  · replace hf := x_pos (show x3 < 1 from c_1) hf
    exact j162_46_ok hd hf
  · replace hf := x_neg (show ¬ x3 < 1 from c_1) hf
    refine ev_do i162_31 rfl ?_
    refine ev_do i162_32 rfl ?_
    refine ev_icmp (t := 46) i162_34 rfl (fun c_2 => ?_) (fun c_2 => ?_)
    · replace hf := x_pos (show 10 < x3 from c_2) hf
      exact j162_46_ok hd hf
    · replace hf := x_neg (show ¬ 10 < x3 from c_2) hf
      refine sh_aload (i' := 0) (n := 1) i162_37 (Or.inr ⟨rfl, by decide⟩) rfl ?_
      refine ev_do i162_38 rfl ?_
      obtain ⟨v_3, ev_3, hf⟩ := x_bind hf
      refine sh_aldI (tg := 13) i162_39 (Or.inl ⟨rfl, rfl⟩) ev_3 ?_
      obtain ⟨r_4, er_4, hf⟩ := x_bind hf
      refine ev_sta (as := [.int v_3]) (z := (some (.int r_4.1), r_4.2)) i162_40 v162_171 (Or.inl rfl) m147 rfl (Nat.le_of_ble_eq_true rfl) (fn147_call (by omega) er_4) ?_
      refine ev_if (t := 50) i162_43 rfl (fun c_5 => ?_) (fun c_5 => ?_)
      · replace hf := x_pos (show r_4.1 = 0 from c_5) hf
        refine ev_do i162_50 rfl ?_
        exact j162_51_ok hd hf
      · replace hf := x_neg (show ¬ r_4.1 = 0 from c_5) hf
        exact j162_46_ok hd hf
def l162_2  : Nat → Option Nat → Int32 → Int32 → Int32 → xH → Option (Int32 × xH)
  | 0 => fun _ _ _ _ _ => none
  | n + 1 => fun o0 x1 x2 x3 h => (if x2 ≤ (x1 + x3) then j162_26 o0 x1 x2 x3 h else (xaI h 13 o0 (x1 + x3)).bind fun v_2 => (fn161 v_2 h).bind fun r_3 => (if r_3.1 = 0 then j162_26 o0 x1 x2 x3 r_3.2 else l162_2 n o0 x1 x2 (x3 + 1) r_3.2))
theorem l162_2_ok {xs : List Int32} {d : Nat} (hd : 3 ≤ d) : ∀ (n : Nat) {o0 : Option Nat} {x1 : Int32} {x2 : Int32} {x3 : Int32} {h : xH} {r : (Int32 × xH)}, l162_2 n o0 x1 x2 x3 h = some r → xEv (xTa xs) d 162 (2, [xrv o0, .int x1, .int x2, .int x3], [], h) (some (.int r.1), r.2) := by
  intro n
  induction n with
  | zero => intros; rename_i hf; cases hf
  | succ n ih =>
    intro o0 x1 x2 x3 h r hf
    replace hf : ((if x2 ≤ (x1 + x3) then j162_26 o0 x1 x2 x3 h else (xaI h 13 o0 (x1 + x3)).bind fun v_2 => (fn161 v_2 h).bind fun r_3 => (if r_3.1 = 0 then j162_26 o0 x1 x2 x3 r_3.2 else l162_2 n o0 x1 x2 (x3 + 1) r_3.2))) = some r := hf
    refine ev_do i162_2 rfl ?_
    refine ev_do i162_3 rfl ?_
    refine ev_do i162_4 rfl ?_
    refine ev_do i162_5 rfl ?_
    refine ev_icmp (t := 26) i162_6 rfl (fun c_1 => ?_) (fun c_1 => ?_)
    · replace hf := x_pos (show x2 ≤ (x1 + x3) from c_1) hf
      exact j162_26_ok hd hf
    · replace hf := x_neg (show ¬ x2 ≤ (x1 + x3) from c_1) hf
      refine sh_aload (i' := 0) (n := 1) i162_9 (Or.inr ⟨rfl, by decide⟩) rfl ?_
      refine ev_do i162_10 rfl ?_
      refine ev_do i162_11 rfl ?_
      refine ev_do i162_12 rfl ?_
      obtain ⟨v_2, ev_2, hf⟩ := x_bind hf
      refine sh_aldI (tg := 13) i162_13 (Or.inl ⟨rfl, rfl⟩) ev_2 ?_
      obtain ⟨r_3, er_3, hf⟩ := x_bind hf
      refine ev_sta (as := [.int v_2]) (z := (some (.int r_3.1), r_3.2)) i162_14 v162_202 (Or.inl rfl) m161 rfl (Nat.le_of_ble_eq_true rfl) (fn161_call (by omega) er_3) ?_
      refine ev_if (t := 26) i162_17 rfl (fun c_4 => ?_) (fun c_4 => ?_)
      · replace hf := x_pos (show r_3.1 = 0 from c_4) hf
        exact j162_26_ok hd hf
      · replace hf := x_neg (show ¬ r_3.1 = 0 from c_4) hf
        refine sh_inc (i' := 3) i162_20 rfl (xokst_of (Nat.le_of_ble_eq_true rfl) rfl) rfl ?_
        refine sh_goto (t := 2) i162_23 rfl ?_
        exact ih hf
def fn162 (o0 : Option Nat) (x1 : Int32) (x2 : Int32) (h : xH) : Option (Int32 × xH) := l162_2 xFuel o0 x1 x2 0 h
theorem fn162_call {xs : List Int32} {d : Nat} (hd : 4 ≤ d) {o0 : Option Nat} {x1 : Int32} {x2 : Int32} {h : xH} {r : (Int32 × xH)} (hf : fn162 o0 x1 x2 h = some r) : xCall (xTa xs) d 162 [xrv o0, .int x1, .int x2] h (some (.int r.1), r.2) := by
  obtain ⟨d, rfl⟩ : ∃ d2, d = d2 + 1 := ⟨d - 1, by omega⟩
  replace hd : 3 ≤ d := by omega
  refine call_of2 (fl := [xrv o0, .int x1, .int x2]) (Ls := [xrv o0, .int x1, .int x2, .float 0]) m162 (by simp [xfl, xrv_cat, xc_i, xc_j, xc_a, xc_f]) (Nat.le_of_ble_eq_true rfl) rfl ?_
  unfold fn162 at hf
  refine ev_do i162_0 rfl ?_
  refine sh_istore (i' := 3) (n := 1) i162_1 (Or.inr ⟨rfl, by decide⟩) (xokst_of (Nat.le_of_ble_eq_true rfl) rfl) ?_
  exact l162_2_ok hd xFuel hf
end
section
def j163_57  (o0 : Option Nat) (x1 : Int32) (x2 : Int32) (x3 : Int32) (x4 : Int32) (s0 : Int32) (h : xH) : Option (Int32 × xH) := some (s0, h)
theorem j163_57_ok {xs : List Int32} {d : Nat} (hd : 4 ≤ d) {o0 : Option Nat} {x1 : Int32} {x2 : Int32} {x3 : Int32} {x4 : Int32} {s0 : Int32} {h : xH} {r : (Int32 × xH)} (hf : j163_57 o0 x1 x2 x3 x4 s0 h = some r) : xEv (xTa xs) d 163 (57, [xrv o0, .int x1, .int x2, .int x3, .int x4], [.int s0], h) (some (.int r.1), r.2) := by
  unfold j163_57 at hf
  obtain rfl := Option.some.inj hf
  exact sh_iret i163_57 m163 rfl rfl
def j163_28  (o0 : Option Nat) (x1 : Int32) (x2 : Int32) (x3 : Int32) (h : xH) : Option (Int32 × xH) := some (x3, h)
theorem j163_28_ok {xs : List Int32} {d : Nat} (hd : 4 ≤ d) {u4 : Value} {o0 : Option Nat} {x1 : Int32} {x2 : Int32} {x3 : Int32} {h : xH} {r : (Int32 × xH)} (hu4 : u4.category = 1) (hf : j163_28 o0 x1 x2 x3 h = some r) : xEv (xTa xs) d 163 (28, [xrv o0, .int x1, .int x2, .int x3, u4], [], h) (some (.int r.1), r.2) := by
  unfold j163_28 at hf
  refine ev_do i163_28 rfl ?_
  obtain rfl := Option.some.inj hf
  exact sh_iret i163_29 m163 rfl rfl
def fn163 (o0 : Option Nat) (x1 : Int32) (x2 : Int32) (h : xH) : Option (Int32 × xH) := (fn162 o0 x1 x2 h).bind fun r_1 => (if r_1.1 = 0 then j163_28 o0 x1 x2 r_1.1 r_1.2 else (if x2 ≤ (x1 + r_1.1) then j163_28 o0 x1 x2 r_1.1 r_1.2 else (xaI r_1.2 13 o0 (x1 + r_1.1)).bind fun v_4 => (if v_4 = 46 then (fn162 o0 ((x1 + r_1.1) + 1) x2 r_1.2).bind fun r_6 => (if r_6.1 = 0 then j163_57 o0 x1 x2 r_1.1 r_6.1 0 r_6.2 else j163_57 o0 x1 x2 r_1.1 r_6.1 ((r_1.1 + 1) + r_6.1) r_6.2) else j163_28 o0 x1 x2 r_1.1 r_1.2)))
theorem fn163_call {xs : List Int32} {d : Nat} (hd : 5 ≤ d) {o0 : Option Nat} {x1 : Int32} {x2 : Int32} {h : xH} {r : (Int32 × xH)} (hf : fn163 o0 x1 x2 h = some r) : xCall (xTa xs) d 163 [xrv o0, .int x1, .int x2] h (some (.int r.1), r.2) := by
  obtain ⟨d, rfl⟩ : ∃ d2, d = d2 + 1 := ⟨d - 1, by omega⟩
  replace hd : 4 ≤ d := by omega
  refine call_of2 (fl := [xrv o0, .int x1, .int x2]) (Ls := [xrv o0, .int x1, .int x2, .float 0, .float 0]) m163 (by simp [xfl, xrv_cat, xc_i, xc_j, xc_a, xc_f]) (Nat.le_of_ble_eq_true rfl) rfl ?_
  unfold fn163 at hf
  refine sh_aload (i' := 0) (n := 1) i163_0 (Or.inr ⟨rfl, by decide⟩) rfl ?_
  refine ev_do i163_1 rfl ?_
  refine ev_do i163_2 rfl ?_
  obtain ⟨r_1, er_1, hf⟩ := x_bind hf
  refine ev_sta (as := [.int x2, .int x1, xrv o0]) (z := (some (.int r_1.1), r_1.2)) i163_3 v163_205 (Or.inl rfl) m162 rfl (Nat.le_of_ble_eq_true rfl) (fn162_call (by omega) er_1) ?_
  refine sh_istore (i' := 3) (n := 1) i163_6 (Or.inr ⟨rfl, by decide⟩) (xokst_of (Nat.le_of_ble_eq_true rfl) rfl) ?_
  refine ev_do i163_7 rfl ?_
  refine ev_if (t := 28) i163_8 rfl (fun c_2 => ?_) (fun c_2 => ?_)
  · replace hf := x_pos (show r_1.1 = 0 from c_2) hf
    exact j163_28_ok hd rfl hf
  · replace hf := x_neg (show ¬ r_1.1 = 0 from c_2) hf
    refine ev_do i163_11 rfl ?_
    refine ev_do i163_12 rfl ?_
    refine ev_do i163_13 rfl ?_
    refine ev_do i163_14 rfl ?_
    refine ev_icmp (t := 28) i163_15 rfl (fun c_3 => ?_) (fun c_3 => ?_)
    · replace hf := x_pos (show x2 ≤ (x1 + r_1.1) from c_3) hf
      exact j163_28_ok hd rfl hf
    · replace hf := x_neg (show ¬ x2 ≤ (x1 + r_1.1) from c_3) hf
      refine sh_aload (i' := 0) (n := 1) i163_18 (Or.inr ⟨rfl, by decide⟩) rfl ?_
      refine ev_do i163_19 rfl ?_
      refine ev_do i163_20 rfl ?_
      refine ev_do i163_21 rfl ?_
      obtain ⟨v_4, ev_4, hf⟩ := x_bind hf
      refine sh_aldI (tg := 13) i163_22 (Or.inl ⟨rfl, rfl⟩) ev_4 ?_
      refine ev_do i163_23 rfl ?_
      refine ev_icmp (t := 30) i163_25 rfl (fun c_5 => ?_) (fun c_5 => ?_)
      · replace hf := x_pos (show v_4 = 46 from c_5) hf
        refine sh_aload (i' := 0) (n := 1) i163_30 (Or.inr ⟨rfl, by decide⟩) rfl ?_
        refine ev_do i163_31 rfl ?_
        refine ev_do i163_32 rfl ?_
        refine ev_do i163_33 rfl ?_
        refine ev_do i163_34 rfl ?_
        refine ev_do i163_35 rfl ?_
        refine ev_do i163_36 rfl ?_
        obtain ⟨r_6, er_6, hf⟩ := x_bind hf
        refine ev_sta (as := [.int x2, .int ((x1 + r_1.1) + 1), xrv o0]) (z := (some (.int r_6.1), r_6.2)) i163_37 v163_205 (Or.inl rfl) m162 rfl (Nat.le_of_ble_eq_true rfl) (fn162_call (by omega) er_6) ?_
        refine sh_istore (i' := 4) (n := 2) i163_40 (Or.inl rfl) (xokst_of (Nat.le_of_ble_eq_true rfl) rfl) ?_
        refine ev_do i163_42 rfl ?_
        refine ev_if (t := 51) i163_44 rfl (fun c_7 => ?_) (fun c_7 => ?_)
        · replace hf := x_neg (show ¬ r_6.1 = 0 from c_7) hf
          refine ev_do i163_51 rfl ?_
          refine ev_do i163_52 rfl ?_
          refine ev_do i163_53 rfl ?_
          refine ev_do i163_54 rfl ?_
          refine ev_do i163_56 rfl ?_
          exact j163_57_ok hd hf
        · replace hf := x_pos (show r_6.1 = 0 from Decidable.byContradiction (fun h9 => c_7 h9)) hf
          refine ev_do i163_47 rfl ?_
          refine sh_goto (t := 57) i163_48 rfl ?_
          exact j163_57_ok hd hf
      · replace hf := x_neg (show ¬ v_4 = 46 from c_5) hf
        exact j163_28_ok hd rfl hf
end
section
def j164_137  (o0 : Option Nat) (x1 : Int32) (o2 : Option Nat) (x3 : Int32) (x4 : Int32) (x5 : Int32) (x6 : Int32) (x7 : Int32) (x8 : Int32) (s0 : Int32) (h : xH) : Option (Int32 × xH) := some (s0, h)
theorem j164_137_ok {xs : List Int32} {d : Nat} (hd : 4 ≤ d) {o0 : Option Nat} {x1 : Int32} {o2 : Option Nat} {x3 : Int32} {x4 : Int32} {x5 : Int32} {x6 : Int32} {x7 : Int32} {x8 : Int32} {s0 : Int32} {h : xH} {r : (Int32 × xH)} (hf : j164_137 o0 x1 o2 x3 x4 x5 x6 x7 x8 s0 h = some r) : xEv (xTa xs) d 164 (137, [xrv o0, .int x1, xrv o2, .int x3, .int x4, .int x5, .int x6, .int x7, .int x8], [.int s0], h) (some (.int r.1), r.2) := by
  unfold j164_137 at hf
  obtain rfl := Option.some.inj hf
  exact sh_iret i164_137 m164 rfl rfl
def j164_117  (o0 : Option Nat) (x1 : Int32) (o2 : Option Nat) (x3 : Int32) (x4 : Int32) (x5 : Int32) (x6 : Int32) (x7 : Int32) (x8 : Int32) (h : xH) : Option (Int32 × xH) := j164_137 o0 x1 o2 x3 x4 x5 x6 x7 x8 (-1) h
theorem j164_117_ok {xs : List Int32} {d : Nat} (hd : 4 ≤ d) {o0 : Option Nat} {x1 : Int32} {o2 : Option Nat} {x3 : Int32} {x4 : Int32} {x5 : Int32} {x6 : Int32} {x7 : Int32} {x8 : Int32} {h : xH} {r : (Int32 × xH)} (hf : j164_117 o0 x1 o2 x3 x4 x5 x6 x7 x8 h = some r) : xEv (xTa xs) d 164 (117, [xrv o0, .int x1, xrv o2, .int x3, .int x4, .int x5, .int x6, .int x7, .int x8], [], h) (some (.int r.1), r.2) := by
  unfold j164_117 at hf
  refine ev_do i164_117 rfl ?_
  refine sh_goto (t := 137) i164_118 rfl ?_
  exact j164_137_ok hd hf
def j164_91  (o0 : Option Nat) (x1 : Int32) (o2 : Option Nat) (x3 : Int32) (x4 : Int32) (x5 : Int32) (x6 : Int32) (s0 : Int32) (h : xH) : Option (Int32 × xH) := (if s0 = (-1) then j164_117 o0 x1 o2 x3 x4 x5 x6 s0 ((x3 + x5) + 1) h else (xaI h 13 o2 ((x3 + x5) + 1)).bind fun v_2 => (fn146 v_2 h).bind fun r_3 => (if r_3.1 = 0 then j164_117 o0 x1 o2 x3 x4 x5 x6 s0 ((x3 + x5) + 1) r_3.2 else (xcv r_3.2 o0 11).bind fun _ => (fn157 o0 s0 o2 ((x3 + x5) + 1) ((x4 - x5) - 1) r_3.2).bind fun r_5 => j164_137 o0 x1 o2 x3 x4 x5 x6 s0 ((x3 + x5) + 1) r_5.1 r_5.2))
theorem j164_91_ok {xs : List Int32} {d : Nat} (hd : 4 ≤ d) {u7 : Value} {u8 : Value} {o0 : Option Nat} {x1 : Int32} {o2 : Option Nat} {x3 : Int32} {x4 : Int32} {x5 : Int32} {x6 : Int32} {s0 : Int32} {h : xH} {r : (Int32 × xH)} (hu7 : u7.category = 1) (hu8 : u8.category = 1) (hf : j164_91 o0 x1 o2 x3 x4 x5 x6 s0 h = some r) : xEv (xTa xs) d 164 (91, [xrv o0, .int x1, xrv o2, .int x3, .int x4, .int x5, .int x6, u7, u8], [.int s0], h) (some (.int r.1), r.2) := by
  unfold j164_91 at hf
  refine sh_istore (i' := 7) (n := 2) i164_91 (Or.inl rfl) (xokst_of (Nat.le_of_ble_eq_true rfl) rfl) ?_
  refine ev_do i164_93 rfl ?_
  refine ev_do i164_94 rfl ?_
  refine ev_do i164_96 rfl ?_
  refine ev_do i164_97 rfl ?_
  refine ev_do i164_98 rfl ?_
  refine sh_istore (i' := 8) (n := 2) i164_99 (Or.inl rfl) (xokst_of (Nat.le_of_ble_eq_true rfl) rfl) ?_
  refine ev_do i164_101 rfl ?_
  refine ev_do i164_103 rfl ?_
  refine ev_icmp (t := 117) i164_104 rfl (fun c_1 => ?_) (fun c_1 => ?_)
  · replace hf := x_pos (show s0 = (-1) from c_1) hf
    exact j164_117_ok hd hf
  · replace hf := x_neg (show ¬ s0 = (-1) from c_1) hf
    refine sh_aload (i' := 2) (n := 1) i164_107 (Or.inr ⟨rfl, by decide⟩) rfl ?_
    refine ev_do i164_108 rfl ?_
    obtain ⟨v_2, ev_2, hf⟩ := x_bind hf
    refine sh_aldI (tg := 13) i164_110 (Or.inl ⟨rfl, rfl⟩) ev_2 ?_
    obtain ⟨r_3, er_3, hf⟩ := x_bind hf
    refine ev_sta (as := [.int v_2]) (z := (some (.int r_3.1), r_3.2)) i164_111 v164_168 (Or.inl rfl) m146 rfl (Nat.le_of_ble_eq_true rfl) (fn146_call (by omega) er_3) ?_
    refine ev_if (t := 121) i164_114 rfl (fun c_4 => ?_) (fun c_4 => ?_)
    · replace hf := x_neg (show ¬ r_3.1 = 0 from c_4) hf
      refine sh_aload (i' := 0) (n := 1) i164_121 (Or.inr ⟨rfl, by decide⟩) rfl ?_
      refine ev_do i164_122 rfl ?_
      refine sh_aload (i' := 2) (n := 1) i164_124 (Or.inr ⟨rfl, by decide⟩) rfl ?_
      refine ev_do i164_125 rfl ?_
      refine ev_do i164_127 rfl ?_
      refine ev_do i164_129 rfl ?_
      refine ev_do i164_131 rfl ?_
      refine ev_do i164_132 rfl ?_
      refine ev_do i164_133 rfl ?_
      obtain ⟨_, eu_6, hf⟩ := x_bind hf
      obtain ⟨r_5, er_5, hf⟩ := x_bind hf
      refine sh_inv (as := [.int ((x4 - x5) - 1), .int ((x3 + x5) + 1), xrv o2, .int s0]) (z := (some (.int r_5.1), r_5.2)) i164_134 v164_190 (Or.inl ⟨by decide, rfl⟩) m157 rfl (Nat.le_of_ble_eq_true rfl) eu_6 (fn157_call (by omega) er_5) ?_
      exact j164_137_ok hd hf
    · replace hf := x_pos (show r_3.1 = 0 from Decidable.byContradiction (fun h9 => c_4 h9)) hf
      exact j164_117_ok hd hf
def j164_69  (o0 : Option Nat) (x1 : Int32) (o2 : Option Nat) (x3 : Int32) (x4 : Int32) (x5 : Int32) (x6 : Int32) (s0 : Int32) (h : xH) : Option (Int32 × xH) := some (s0, h)
theorem j164_69_ok {xs : List Int32} {d : Nat} (hd : 4 ≤ d) {u7 : Value} {u8 : Value} {o0 : Option Nat} {x1 : Int32} {o2 : Option Nat} {x3 : Int32} {x4 : Int32} {x5 : Int32} {x6 : Int32} {s0 : Int32} {h : xH} {r : (Int32 × xH)} (hu7 : u7.category = 1) (hu8 : u8.category = 1) (hf : j164_69 o0 x1 o2 x3 x4 x5 x6 s0 h = some r) : xEv (xTa xs) d 164 (69, [xrv o0, .int x1, xrv o2, .int x3, .int x4, .int x5, .int x6, u7, u8], [.int s0], h) (some (.int r.1), r.2) := by
  unfold j164_69 at hf
  obtain rfl := Option.some.inj hf
  exact sh_iret i164_69 m164 rfl rfl
def j164_30  (o0 : Option Nat) (x1 : Int32) (o2 : Option Nat) (x3 : Int32) (x4 : Int32) (x5 : Int32) (s0 : Int32) (h : xH) : Option (Int32 × xH) := (if x5 = x4 then (xaI h 13 o2 x3).bind fun v_2 => (fn145 v_2 h).bind fun r_3 => (if r_3.1 = 0 then (xcv r_3.2 o0 11).bind fun _ => (fn157 o0 s0 o2 x3 x4 r_3.2).bind fun r_5 => j164_69 o0 x1 o2 x3 x4 x5 s0 r_5.1 r_5.2 else (xcv r_3.2 o0 11).bind fun _ => (fn159 o0 o2 x3 x4 r_3.2).bind fun r_7 => j164_69 o0 x1 o2 x3 x4 x5 s0 r_7.1 r_7.2) else (xaI h 13 o2 x3).bind fun v_9 => (fn145 v_9 h).bind fun r_10 => (if r_10.1 = 0 then j164_91 o0 x1 o2 x3 x4 x5 s0 (-1) r_10.2 else (xcv r_10.2 o0 11).bind fun _ => (fn159 o0 o2 x3 x5 r_10.2).bind fun r_12 => j164_91 o0 x1 o2 x3 x4 x5 s0 r_12.1 r_12.2))
theorem j164_30_ok {xs : List Int32} {d : Nat} (hd : 4 ≤ d) {u6 : Value} {u7 : Value} {u8 : Value} {o0 : Option Nat} {x1 : Int32} {o2 : Option Nat} {x3 : Int32} {x4 : Int32} {x5 : Int32} {s0 : Int32} {h : xH} {r : (Int32 × xH)} (hu6 : u6.category = 1) (hu7 : u7.category = 1) (hu8 : u8.category = 1) (hf : j164_30 o0 x1 o2 x3 x4 x5 s0 h = some r) : xEv (xTa xs) d 164 (30, [xrv o0, .int x1, xrv o2, .int x3, .int x4, .int x5, u6, u7, u8], [.int s0], h) (some (.int r.1), r.2) := by
  unfold j164_30 at hf
  refine sh_istore (i' := 6) (n := 2) i164_30 (Or.inl rfl) (xokst_of (Nat.le_of_ble_eq_true rfl) rfl) ?_
  refine ev_do i164_32 rfl ?_
  refine ev_do i164_34 rfl ?_
  refine ev_icmp (t := 70) i164_36 rfl (fun c_1 => ?_) (fun c_1 => ?_)
  · replace hf := x_neg (show ¬ x5 = x4 from c_1) hf
    refine sh_aload (i' := 2) (n := 1) i164_70 (Or.inr ⟨rfl, by decide⟩) rfl ?_
    refine ev_do i164_71 rfl ?_
    obtain ⟨v_9, ev_9, hf⟩ := x_bind hf
    refine sh_aldI (tg := 13) i164_72 (Or.inl ⟨rfl, rfl⟩) ev_9 ?_
    obtain ⟨r_10, er_10, hf⟩ := x_bind hf
    refine ev_sta (as := [.int v_9]) (z := (some (.int r_10.1), r_10.2)) i164_73 v164_165 (Or.inl rfl) m145 rfl (Nat.le_of_ble_eq_true rfl) (fn145_call (by omega) er_10) ?_
    refine ev_if (t := 90) i164_76 rfl (fun c_11 => ?_) (fun c_11 => ?_)
    · replace hf := x_pos (show r_10.1 = 0 from c_11) hf
      refine ev_do i164_90 rfl ?_
      exact j164_91_ok hd hu7 hu8 hf
    · replace hf := x_neg (show ¬ r_10.1 = 0 from c_11) hf
      refine sh_aload (i' := 0) (n := 1) i164_79 (Or.inr ⟨rfl, by decide⟩) rfl ?_
      refine sh_aload (i' := 2) (n := 1) i164_80 (Or.inr ⟨rfl, by decide⟩) rfl ?_
      refine ev_do i164_81 rfl ?_
      refine ev_do i164_82 rfl ?_
      obtain ⟨_, eu_13, hf⟩ := x_bind hf
      obtain ⟨r_12, er_12, hf⟩ := x_bind hf
      refine sh_inv (as := [.int x5, .int x3, xrv o2]) (z := (some (.int r_12.1), r_12.2)) i164_84 v164_209 (Or.inl ⟨by decide, rfl⟩) m159 rfl (Nat.le_of_ble_eq_true rfl) eu_13 (fn159_call (by omega) er_12) ?_
      refine sh_goto (t := 91) i164_87 rfl ?_
      exact j164_91_ok hd hu7 hu8 hf
  · replace hf := x_pos (show x5 = x4 from Decidable.byContradiction (fun h9 => c_1 h9)) hf
    refine sh_aload (i' := 2) (n := 1) i164_39 (Or.inr ⟨rfl, by decide⟩) rfl ?_
    refine ev_do i164_40 rfl ?_
    obtain ⟨v_2, ev_2, hf⟩ := x_bind hf
    refine sh_aldI (tg := 13) i164_41 (Or.inl ⟨rfl, rfl⟩) ev_2 ?_
    obtain ⟨r_3, er_3, hf⟩ := x_bind hf
    refine ev_sta (as := [.int v_2]) (z := (some (.int r_3.1), r_3.2)) i164_42 v164_165 (Or.inl rfl) m145 rfl (Nat.le_of_ble_eq_true rfl) (fn145_call (by omega) er_3) ?_
    refine ev_if (t := 59) i164_45 rfl (fun c_4 => ?_) (fun c_4 => ?_)
    · replace hf := x_pos (show r_3.1 = 0 from c_4) hf
      refine sh_aload (i' := 0) (n := 1) i164_59 (Or.inr ⟨rfl, by decide⟩) rfl ?_
      refine ev_do i164_60 rfl ?_
      refine sh_aload (i' := 2) (n := 1) i164_62 (Or.inr ⟨rfl, by decide⟩) rfl ?_
      refine ev_do i164_63 rfl ?_
      refine ev_do i164_64 rfl ?_
      obtain ⟨_, eu_6, hf⟩ := x_bind hf
      obtain ⟨r_5, er_5, hf⟩ := x_bind hf
      refine sh_inv (as := [.int x4, .int x3, xrv o2, .int s0]) (z := (some (.int r_5.1), r_5.2)) i164_66 v164_190 (Or.inl ⟨by decide, rfl⟩) m157 rfl (Nat.le_of_ble_eq_true rfl) eu_6 (fn157_call (by omega) er_5) ?_
      exact j164_69_ok hd hu7 hu8 hf
    · replace hf := x_neg (show ¬ r_3.1 = 0 from c_4) hf
      refine sh_aload (i' := 0) (n := 1) i164_48 (Or.inr ⟨rfl, by decide⟩) rfl ?_
      refine sh_aload (i' := 2) (n := 1) i164_49 (Or.inr ⟨rfl, by decide⟩) rfl ?_
      refine ev_do i164_50 rfl ?_
      refine ev_do i164_51 rfl ?_
      obtain ⟨_, eu_8, hf⟩ := x_bind hf
      obtain ⟨r_7, er_7, hf⟩ := x_bind hf
      refine sh_inv (as := [.int x4, .int x3, xrv o2]) (z := (some (.int r_7.1), r_7.2)) i164_53 v164_209 (Or.inl ⟨by decide, rfl⟩) m159 rfl (Nat.le_of_ble_eq_true rfl) eu_8 (fn159_call (by omega) er_7) ?_
      refine sh_goto (t := 69) i164_56 rfl ?_
      exact j164_69_ok hd hu7 hu8 hf
def fn164 (o0 : Option Nat) (x1 : Int32) (o2 : Option Nat) (x3 : Int32) (x4 : Int32) (h : xH) : Option (Int32 × xH) := (fn162 o2 x3 (x3 + x4) h).bind fun r_1 => (xgR r_1.2 o0 11 3).bind fun a_2 => (xaI r_1.2 14 a_2 x1).bind fun v_3 => (if v_3 = 0 then (xgR r_1.2 o0 11 4).bind fun a_5 => (xaI r_1.2 13 a_5 x1).bind fun v_6 => j164_30 o0 x1 o2 x3 x4 r_1.1 v_6 r_1.2 else j164_30 o0 x1 o2 x3 x4 r_1.1 x1 r_1.2)
theorem fn164_call {xs : List Int32} {d : Nat} (hd : 5 ≤ d) {o0 : Option Nat} {x1 : Int32} {o2 : Option Nat} {x3 : Int32} {x4 : Int32} {h : xH} {r : (Int32 × xH)} (hf : fn164 o0 x1 o2 x3 x4 h = some r) : xCall (xTa xs) d 164 [xrv o0, .int x1, xrv o2, .int x3, .int x4] h (some (.int r.1), r.2) := by
  obtain ⟨d, rfl⟩ : ∃ d2, d = d2 + 1 := ⟨d - 1, by omega⟩
  replace hd : 4 ≤ d := by omega
  refine call_of2 (fl := [xrv o0, .int x1, xrv o2, .int x3, .int x4]) (Ls := [xrv o0, .int x1, xrv o2, .int x3, .int x4, .float 0, .float 0, .float 0, .float 0]) m164 (by simp [xfl, xrv_cat, xc_i, xc_j, xc_a, xc_f]) (Nat.le_of_ble_eq_true rfl) rfl ?_
  unfold fn164 at hf
  refine sh_aload (i' := 2) (n := 1) i164_0 (Or.inr ⟨rfl, by decide⟩) rfl ?_
  refine ev_do i164_1 rfl ?_
  refine ev_do i164_2 rfl ?_
  refine ev_do i164_3 rfl ?_
  refine ev_do i164_5 rfl ?_
  obtain ⟨r_1, er_1, hf⟩ := x_bind hf
  refine ev_sta (as := [.int (x3 + x4), .int x3, xrv o2]) (z := (some (.int r_1.1), r_1.2)) i164_6 v164_205 (Or.inl rfl) m162 rfl (Nat.le_of_ble_eq_true rfl) (fn162_call (by omega) er_1) ?_
  refine sh_istore (i' := 5) (n := 2) i164_9 (Or.inl rfl) (xokst_of (Nat.le_of_ble_eq_true rfl) rfl) ?_
  refine sh_aload (i' := 0) (n := 1) i164_11 (Or.inr ⟨rfl, by decide⟩) rfl ?_
  obtain ⟨a_2, ea_2, hf⟩ := x_bind hf
  refine sh_getR i164_12 f164_13 ea_2 ?_
  refine ev_do i164_15 rfl ?_
  obtain ⟨v_3, ev_3, hf⟩ := x_bind hf
  refine sh_aldI (tg := 14) i164_16 (Or.inr (Or.inr ⟨rfl, rfl⟩)) ev_3 ?_
  refine ev_if (t := 24) i164_17 rfl (fun c_4 => ?_) (fun c_4 => ?_)
  · replace hf := x_pos (show v_3 = 0 from c_4) hf
    refine sh_aload (i' := 0) (n := 1) i164_24 (Or.inr ⟨rfl, by decide⟩) rfl ?_
    obtain ⟨a_5, ea_5, hf⟩ := x_bind hf
    refine sh_getR i164_25 f164_17 ea_5 ?_
    refine ev_do i164_28 rfl ?_
    obtain ⟨v_6, ev_6, hf⟩ := x_bind hf
    refine sh_aldI (tg := 13) i164_29 (Or.inl ⟨rfl, rfl⟩) ev_6 ?_
    exact j164_30_ok hd rfl rfl rfl hf
  · replace hf := x_neg (show ¬ v_3 = 0 from c_4) hf
    refine ev_do i164_20 rfl ?_
    refine sh_goto (t := 30) i164_21 rfl ?_
    exact j164_30_ok hd rfl rfl rfl hf
end
section
def j165_53  (o0 : Option Nat) (x1 : Int32) (x2 : Int32) (s0 : Int32) (h : xH) : Option (Int32 × xH) := some (s0, h)
theorem j165_53_ok {xs : List Int32} {d : Nat} (hd : 5 ≤ d) {o0 : Option Nat} {x1 : Int32} {x2 : Int32} {s0 : Int32} {h : xH} {r : (Int32 × xH)} (hf : j165_53 o0 x1 x2 s0 h = some r) : xEv (xTa xs) d 165 (53, [xrv o0, .int x1, .int x2], [.int s0], h) (some (.int r.1), r.2) := by
  unfold j165_53 at hf
  obtain rfl := Option.some.inj hf
  exact sh_iret i165_53 m165 rfl rfl
def j165_52  (o0 : Option Nat) (x1 : Int32) (x2 : Int32) (h : xH) : Option (Int32 × xH) := j165_53 o0 x1 x2 (-1) h
theorem j165_52_ok {xs : List Int32} {d : Nat} (hd : 5 ≤ d) {o0 : Option Nat} {x1 : Int32} {x2 : Int32} {h : xH} {r : (Int32 × xH)} (hf : j165_52 o0 x1 x2 h = some r) : xEv (xTa xs) d 165 (52, [xrv o0, .int x1, .int x2], [], h) (some (.int r.1), r.2) := by
  unfold j165_52 at hf
  refine ev_do i165_52 rfl ?_
  exact j165_53_ok hd hf
def fn165 (o0 : Option Nat) (x1 : Int32) (h : xH) : Option (Int32 × xH) := (xgI h o0 11 1).bind fun v_1 => (xpF h o0 11 1 .int (.int 0)).bind fun h_2 => (xcv h_2 o0 11).bind fun _ => (fn148 o0 x1 h_2).bind fun r_3 => (if r_3.1 = 0 then some ((-9), r_3.2) else (if v_1 ≤ 0 then j165_52 o0 x1 v_1 r_3.2 else (xgR r_3.2 o0 11 0).bind fun a_6 => (fn163 a_6 0 v_1 r_3.2).bind fun r_7 => (if r_7.1 = v_1 then (xgR r_7.2 o0 11 0).bind fun a_9 => (xcv r_7.2 o0 11).bind fun _ => (fn164 o0 x1 a_9 0 v_1 r_7.2).bind fun r_10 => j165_53 o0 x1 v_1 r_10.1 r_10.2 else j165_52 o0 x1 v_1 r_7.2)))
theorem fn165_call {xs : List Int32} {d : Nat} (hd : 6 ≤ d) {o0 : Option Nat} {x1 : Int32} {h : xH} {r : (Int32 × xH)} (hf : fn165 o0 x1 h = some r) : xCall (xTa xs) d 165 [xrv o0, .int x1] h (some (.int r.1), r.2) := by
  obtain ⟨d, rfl⟩ : ∃ d2, d = d2 + 1 := ⟨d - 1, by omega⟩
  replace hd : 5 ≤ d := by omega
  refine call_of2 (fl := [xrv o0, .int x1]) (Ls := [xrv o0, .int x1, .float 0]) m165 (by simp [xfl, xrv_cat, xc_i, xc_j, xc_a, xc_f]) (Nat.le_of_ble_eq_true rfl) rfl ?_
  unfold fn165 at hf
  refine sh_aload (i' := 0) (n := 1) i165_0 (Or.inr ⟨rfl, by decide⟩) rfl ?_
  obtain ⟨v_1, ev_1, hf⟩ := x_bind hf
  refine sh_getI i165_1 f165_146 ev_1 ?_
  refine sh_istore (i' := 2) (n := 1) i165_4 (Or.inr ⟨rfl, by decide⟩) (xokst_of (Nat.le_of_ble_eq_true rfl) rfl) ?_
  refine sh_aload (i' := 0) (n := 1) i165_5 (Or.inr ⟨rfl, by decide⟩) rfl ?_
  refine ev_do i165_6 rfl ?_
  obtain ⟨h_2, eh_2, hf⟩ := x_bind hf
  refine sh_put i165_7 f165_146 (by decide) rfl eh_2 ?_
  refine sh_aload (i' := 0) (n := 1) i165_10 (Or.inr ⟨rfl, by decide⟩) rfl ?_
  refine ev_do i165_11 rfl ?_
  obtain ⟨_, eu_12, hf⟩ := x_bind hf
  obtain ⟨r_3, er_3, hf⟩ := x_bind hf
  refine sh_inv (as := [.int x1]) (z := (some (.int r_3.1), r_3.2)) i165_12 v165_161 (Or.inl ⟨by decide, rfl⟩) m148 rfl (Nat.le_of_ble_eq_true rfl) eu_12 (fn148_call (by omega) er_3) ?_
  refine ev_if (t := 21) i165_15 rfl (fun c_4 => ?_) (fun c_4 => ?_)
  · replace hf := x_neg (show ¬ r_3.1 = 0 from c_4) hf
    refine ev_do i165_21 rfl ?_
    refine ev_if (t := 52) i165_22 rfl (fun c_5 => ?_) (fun c_5 => ?_)
    · replace hf := x_pos (show v_1 ≤ 0 from c_5) hf
      exact j165_52_ok hd hf
    · replace hf := x_neg (show ¬ v_1 ≤ 0 from c_5) hf
      refine sh_aload (i' := 0) (n := 1) i165_25 (Or.inr ⟨rfl, by decide⟩) rfl ?_
      obtain ⟨a_6, ea_6, hf⟩ := x_bind hf
      refine sh_getR i165_26 f165_9 ea_6 ?_
      refine ev_do i165_29 rfl ?_
      refine ev_do i165_30 rfl ?_
      obtain ⟨r_7, er_7, hf⟩ := x_bind hf
      refine ev_sta (as := [.int v_1, .int 0, xrv a_6]) (z := (some (.int r_7.1), r_7.2)) i165_31 v165_212 (Or.inl rfl) m163 rfl (Nat.le_of_ble_eq_true rfl) (fn163_call (by omega) er_7) ?_
      refine ev_do i165_34 rfl ?_
      refine ev_icmp (t := 52) i165_35 rfl (fun c_8 => ?_) (fun c_8 => ?_)
      · replace hf := x_neg (show ¬ r_7.1 = v_1 from c_8) hf
        exact j165_52_ok hd hf
      · replace hf := x_pos (show r_7.1 = v_1 from Decidable.byContradiction (fun h9 => c_8 h9)) hf
        refine sh_aload (i' := 0) (n := 1) i165_38 (Or.inr ⟨rfl, by decide⟩) rfl ?_
        refine ev_do i165_39 rfl ?_
        refine sh_aload (i' := 0) (n := 1) i165_40 (Or.inr ⟨rfl, by decide⟩) rfl ?_
        obtain ⟨a_9, ea_9, hf⟩ := x_bind hf
        refine sh_getR i165_41 f165_9 ea_9 ?_
        refine ev_do i165_44 rfl ?_
        refine ev_do i165_45 rfl ?_
        obtain ⟨_, eu_11, hf⟩ := x_bind hf
        obtain ⟨r_10, er_10, hf⟩ := x_bind hf
        refine sh_inv (as := [.int v_1, .int 0, xrv a_9, .int x1]) (z := (some (.int r_10.1), r_10.2)) i165_46 v165_215 (Or.inl ⟨by decide, rfl⟩) m164 rfl (Nat.le_of_ble_eq_true rfl) eu_11 (fn164_call (by omega) er_10) ?_
        refine sh_goto (t := 53) i165_49 rfl ?_
        exact j165_53_ok hd hf
  · replace hf := x_pos (show r_3.1 = 0 from Decidable.byContradiction (fun h9 => c_4 h9)) hf
    refine ev_do i165_18 rfl ?_
    obtain rfl := Option.some.inj hf
    exact sh_iret i165_20 m165 rfl rfl
end
section
def j166_17  (o0 : Option Nat) (x1 : Int32) (x2 : Int32) (h : xH) : Option xH := some h
theorem j166_17_ok {xs : List Int32} {d : Nat} (hd : 1 ≤ d) {o0 : Option Nat} {x1 : Int32} {x2 : Int32} {h : xH} {r : xH} (hf : j166_17 o0 x1 x2 h = some r) : xEv (xTa xs) d 166 (17, [xrv o0, .int x1, .int x2], [], h) (none, r) := by
  unfold j166_17 at hf
  obtain rfl := Option.some.inj hf
  exact sh_vret i166_17 m166 rfl
def fn166 (o0 : Option Nat) (x1 : Int32) (x2 : Int32) (h : xH) : Option xH := (xgI h o0 11 31).bind fun v_1 => (if v_1 = 0 then (xpF h o0 11 31 .int (.int x1)).bind fun h_3 => (xpF h_3 o0 11 32 .int (.int x2)).bind fun h_4 => j166_17 o0 x1 x2 h_4 else j166_17 o0 x1 x2 h)
theorem fn166_call {xs : List Int32} {d : Nat} (hd : 2 ≤ d) {o0 : Option Nat} {x1 : Int32} {x2 : Int32} {h : xH} {r : xH} (hf : fn166 o0 x1 x2 h = some r) : xCall (xTa xs) d 166 [xrv o0, .int x1, .int x2] h (none, r) := by
  obtain ⟨d, rfl⟩ : ∃ d2, d = d2 + 1 := ⟨d - 1, by omega⟩
  replace hd : 1 ≤ d := by omega
  refine call_of2 (fl := [xrv o0, .int x1, .int x2]) (Ls := [xrv o0, .int x1, .int x2]) m166 (by simp [xfl, xrv_cat, xc_i, xc_j, xc_a, xc_f]) (Nat.le_of_ble_eq_true rfl) rfl ?_
  unfold fn166 at hf
  refine sh_aload (i' := 0) (n := 1) i166_0 (Or.inr ⟨rfl, by decide⟩) rfl ?_
  obtain ⟨v_1, ev_1, hf⟩ := x_bind hf
  refine sh_getI i166_1 f166_218 ev_1 ?_
  refine ev_if (t := 17) i166_4 rfl (fun c_2 => ?_) (fun c_2 => ?_)
  · replace hf := x_neg (show ¬ v_1 = 0 from c_2) hf
    exact j166_17_ok hd hf
  · replace hf := x_pos (show v_1 = 0 from Decidable.byContradiction (fun h9 => c_2 h9)) hf
    refine sh_aload (i' := 0) (n := 1) i166_7 (Or.inr ⟨rfl, by decide⟩) rfl ?_
    refine ev_do i166_8 rfl ?_
    obtain ⟨h_3, eh_3, hf⟩ := x_bind hf
    refine sh_put i166_9 f166_218 (by decide) rfl eh_3 ?_
    refine sh_aload (i' := 0) (n := 1) i166_12 (Or.inr ⟨rfl, by decide⟩) rfl ?_
    refine ev_do i166_13 rfl ?_
    obtain ⟨h_4, eh_4, hf⟩ := x_bind hf
    refine sh_put i166_14 f166_221 (by decide) rfl eh_4 ?_
    exact j166_17_ok hd hf
end
section
def fn167 (o0 : Option Nat) (x1 : Int32) (h : xH) : Option (Int32 × xH) := (xgR h o0 11 12).bind fun a_1 => (xaI h 13 a_1 (24000 + x1)).bind fun v_2 => some (v_2, h)
theorem fn167_call {xs : List Int32} {d : Nat} (hd : 2 ≤ d) {o0 : Option Nat} {x1 : Int32} {h : xH} {r : (Int32 × xH)} (hf : fn167 o0 x1 h = some r) : xCall (xTa xs) d 167 [xrv o0, .int x1] h (some (.int r.1), r.2) := by
  obtain ⟨d, rfl⟩ : ∃ d2, d = d2 + 1 := ⟨d - 1, by omega⟩
  replace hd : 1 ≤ d := by omega
  refine call_of2 (fl := [xrv o0, .int x1]) (Ls := [xrv o0, .int x1]) m167 (by simp [xfl, xrv_cat, xc_i, xc_j, xc_a, xc_f]) (Nat.le_of_ble_eq_true rfl) rfl ?_
  unfold fn167 at hf
  refine sh_aload (i' := 0) (n := 1) i167_0 (Or.inr ⟨rfl, by decide⟩) rfl ?_
  obtain ⟨a_1, ea_1, hf⟩ := x_bind hf
  refine sh_getR i167_1 f167_41 ea_1 ?_
  refine ev_do i167_4 rfl ?_
  refine ev_do i167_7 rfl ?_
  refine ev_do i167_8 rfl ?_
  obtain ⟨v_2, ev_2, hf⟩ := x_bind hf
  refine sh_aldI (tg := 13) i167_9 (Or.inl ⟨rfl, rfl⟩) ev_2 ?_
  obtain rfl := Option.some.inj hf
  exact sh_iret i167_10 m167 rfl rfl
end
section
def j168_74  (o0 : Option Nat) (x1 : Int32) (w2 : Int64) (x4 : Int32) (x5 : Int32) (x6 : Int32) (h : xH) : Option (Int32 × xH) := (if x5 &&& 1 = x5 then some (x5, h) else none)
theorem j168_74_ok {xs : List Int32} {d : Nat} (hd : 2 ≤ d) {o0 : Option Nat} {x1 : Int32} {w2 : Int64} {x4 : Int32} {x5 : Int32} {x6 : Int32} {h : xH} {r : (Int32 × xH)} (hf : j168_74 o0 x1 w2 x4 x5 x6 h = some r) : xEv (xTa xs) d 168 (74, [xrv o0, .int x1, .long w2, .float 0, .int x4, .int x5, .int x6], [], h) (some (.int r.1), r.2) := by
  unfold j168_74 at hf
  refine ev_do i168_74 rfl ?_
  by_cases c_1 : x5 &&& 1 = x5
  · replace hf := x_pos c_1 hf
    obtain rfl := Option.some.inj hf
    exact sh_iret i168_76 m168 rfl (congrArg Value.int c_1)
  · replace hf := x_neg c_1 hf
    cases hf
def j168_66 (k21 : Option Nat → Int32 → Int64 → Int32 → Int32 → Int32 → xH → Option (Int32 × xH)) (o0 : Option Nat) (x1 : Int32) (w2 : Int64) (x4 : Int32) (x5 : Int32) (x6 : Int32) (s0 : Int32) (h : xH) : Option (Int32 × xH) := k21 o0 x1 w2 x4 s0 (x6 + 1) h
theorem j168_66_ok {xs : List Int32} {d : Nat} (hd : 2 ≤ d) {k21 : Option Nat → Int32 → Int64 → Int32 → Int32 → Int32 → xH → Option (Int32 × xH)} (hk21 : ∀ {o0 : Option Nat} {x1 : Int32} {w2 : Int64} {x4 : Int32} {x5 : Int32} {x6 : Int32} {h : xH} {r : (Int32 × xH)}, k21 o0 x1 w2 x4 x5 x6 h = some r → xEv (xTa xs) d 168 (21, [xrv o0, .int x1, .long w2, .float 0, .int x4, .int x5, .int x6], [], h) (some (.int r.1), r.2)) {o0 : Option Nat} {x1 : Int32} {w2 : Int64} {x4 : Int32} {x5 : Int32} {x6 : Int32} {s0 : Int32} {h : xH} {r : (Int32 × xH)} (hf : j168_66 k21 o0 x1 w2 x4 x5 x6 s0 h = some r) : xEv (xTa xs) d 168 (66, [xrv o0, .int x1, .long w2, .float 0, .int x4, .int x5, .int x6], [.int s0], h) (some (.int r.1), r.2) := by
  unfold j168_66 at hf
  refine sh_istore (i' := 5) (n := 2) i168_66 (Or.inl rfl) (xokst_of (Nat.le_of_ble_eq_true rfl) rfl) ?_
  refine sh_inc (i' := 6) i168_68 rfl (xokst_of (Nat.le_of_ble_eq_true rfl) rfl) rfl ?_
  refine sh_goto (t := 21) i168_71 rfl ?_
  exact hk21 hf
def l168_21  : Nat → Option Nat → Int32 → Int64 → Int32 → Int32 → Int32 → xH → Option (Int32 × xH)
  | 0 => fun _ _ _ _ _ _ _ => none
  | n + 1 => fun o0 x1 w2 x4 x5 x6 h => (if x4 ≤ x6 then j168_74 o0 x1 w2 x4 x5 x6 h else (if x5 = 0 then j168_74 o0 x1 w2 x4 x5 x6 h else (xcv h o0 11).bind fun _ => (fn167 o0 (x1 + x6) h).bind fun r_3 => (if r_3.1 = (((w2 >>> ((8 * ((x4 - 1) - x6)).toInt64 &&& 63)) &&& 255).toInt32) then j168_66 (l168_21 n) o0 x1 w2 x4 x5 x6 1 r_3.2 else j168_66 (l168_21 n) o0 x1 w2 x4 x5 x6 0 r_3.2)))
theorem l168_21_ok {xs : List Int32} {d : Nat} (hd : 2 ≤ d) : ∀ (n : Nat) {o0 : Option Nat} {x1 : Int32} {w2 : Int64} {x4 : Int32} {x5 : Int32} {x6 : Int32} {h : xH} {r : (Int32 × xH)}, l168_21 n o0 x1 w2 x4 x5 x6 h = some r → xEv (xTa xs) d 168 (21, [xrv o0, .int x1, .long w2, .float 0, .int x4, .int x5, .int x6], [], h) (some (.int r.1), r.2) := by
  intro n
  induction n with
  | zero => intros; rename_i hf; cases hf
  | succ n ih =>
    intro o0 x1 w2 x4 x5 x6 h r hf
    replace hf : ((if x4 ≤ x6 then j168_74 o0 x1 w2 x4 x5 x6 h else (if x5 = 0 then j168_74 o0 x1 w2 x4 x5 x6 h else (xcv h o0 11).bind fun _ => (fn167 o0 (x1 + x6) h).bind fun r_3 => (if r_3.1 = (((w2 >>> ((8 * ((x4 - 1) - x6)).toInt64 &&& 63)) &&& 255).toInt32) then j168_66 (l168_21 n) o0 x1 w2 x4 x5 x6 1 r_3.2 else j168_66 (l168_21 n) o0 x1 w2 x4 x5 x6 0 r_3.2)))) = some r := hf
    refine ev_do i168_21 rfl ?_
    refine ev_do i168_23 rfl ?_
    refine ev_icmp (t := 74) i168_25 rfl (fun c_1 => ?_) (fun c_1 => ?_)
    · replace hf := x_pos (show x4 ≤ x6 from c_1) hf
      exact j168_74_ok hd hf
    · replace hf := x_neg (show ¬ x4 ≤ x6 from c_1) hf
      refine ev_do i168_28 rfl ?_
      refine ev_if (t := 74) i168_30 rfl (fun c_2 => ?_) (fun c_2 => ?_)
      · replace hf := x_pos (show x5 = 0 from c_2) hf
        exact j168_74_ok hd hf
      · replace hf := x_neg (show ¬ x5 = 0 from c_2) hf
        refine sh_aload (i' := 0) (n := 1) i168_33 (Or.inr ⟨rfl, by decide⟩) rfl ?_
        refine ev_do i168_34 rfl ?_
        refine ev_do i168_35 rfl ?_
        refine ev_do i168_37 rfl ?_
        obtain ⟨_, eu_5, hf⟩ := x_bind hf
        obtain ⟨r_3, er_3, hf⟩ := x_bind hf
        refine sh_inv (as := [.int (x1 + x6)]) (z := (some (.int r_3.1), r_3.2)) i168_38 v168_227 (Or.inl ⟨by decide, rfl⟩) m167 rfl (Nat.le_of_ble_eq_true rfl) eu_5 (fn167_call (by omega) er_3) ?_
        refine ev_do i168_41 rfl ?_
        refine ev_do i168_42 rfl ?_
        refine ev_do i168_44 rfl ?_
        refine ev_do i168_46 rfl ?_
        refine ev_do i168_47 rfl ?_
        refine ev_do i168_48 rfl ?_
        refine ev_do i168_50 rfl ?_
        refine ev_do i168_51 rfl ?_
        refine ev_do i168_52 rfl ?_
        refine ev_do i168_53 (show xpush? 3 ((xtJ (xTa xs) 168 230).map .long) 53 _ _ _ = _ from by rw [w168_230]; rfl) ?_
        refine ev_do i168_56 rfl ?_
        refine ev_do i168_57 rfl ?_
        refine ev_icmp (t := 65) i168_58 rfl (fun c_4 => ?_) (fun c_4 => ?_)
        · replace hf := x_neg (show ¬ r_3.1 = (((w2 >>> ((8 * ((x4 - 1) - x6)).toInt64 &&& 63)) &&& 255).toInt32) from c_4) hf
          refine ev_do i168_65 rfl ?_
          exact j168_66_ok hd ih hf
        · replace hf := x_pos (show r_3.1 = (((w2 >>> ((8 * ((x4 - 1) - x6)).toInt64 &&& 63)) &&& 255).toInt32) from Decidable.byContradiction (fun h9 => c_4 h9)) hf
          refine ev_do i168_61 rfl ?_
          refine sh_goto (t := 66) i168_62 rfl ?_
          exact j168_66_ok hd ih hf
def j168_16  (o0 : Option Nat) (x1 : Int32) (w2 : Int64) (x4 : Int32) (s0 : Int32) (h : xH) : Option (Int32 × xH) := l168_21 xFuel o0 x1 w2 x4 s0 0 h
theorem j168_16_ok {xs : List Int32} {d : Nat} (hd : 2 ≤ d) {u5 : Value} {u6 : Value} {o0 : Option Nat} {x1 : Int32} {w2 : Int64} {x4 : Int32} {s0 : Int32} {h : xH} {r : (Int32 × xH)} (hu5 : u5.category = 1) (hu6 : u6.category = 1) (hf : j168_16 o0 x1 w2 x4 s0 h = some r) : xEv (xTa xs) d 168 (16, [xrv o0, .int x1, .long w2, .float 0, .int x4, u5, u6], [.int s0], h) (some (.int r.1), r.2) := by
  unfold j168_16 at hf
  refine sh_istore (i' := 5) (n := 2) i168_16 (Or.inl rfl) (xokst_of (Nat.le_of_ble_eq_true rfl) rfl) ?_
  refine ev_do i168_18 rfl ?_
  refine sh_istore (i' := 6) (n := 2) i168_19 (Or.inl rfl) (xokst_of (Nat.le_of_ble_eq_true rfl) rfl) ?_
  exact l168_21_ok hd xFuel hf
def fn168 (o0 : Option Nat) (x1 : Int32) (w2 : Int64) (x4 : Int32) (h : xH) : Option (Int32 × xH) := (xgI h o0 11 37).bind fun v_1 => (if v_1 < (x1 + x4) then j168_16 o0 x1 w2 x4 0 h else j168_16 o0 x1 w2 x4 1 h)
theorem fn168_call {xs : List Int32} {d : Nat} (hd : 3 ≤ d) {o0 : Option Nat} {x1 : Int32} {w2 : Int64} {x4 : Int32} {h : xH} {r : (Int32 × xH)} (hf : fn168 o0 x1 w2 x4 h = some r) : xCall (xTa xs) d 168 [xrv o0, .int x1, .long w2, .int x4] h (some (.int r.1), r.2) := by
  obtain ⟨d, rfl⟩ : ∃ d2, d = d2 + 1 := ⟨d - 1, by omega⟩
  replace hd : 2 ≤ d := by omega
  refine call_of2 (fl := [xrv o0, .int x1, .long w2, .float 0, .int x4]) (Ls := [xrv o0, .int x1, .long w2, .float 0, .int x4, .float 0, .float 0]) m168 (by simp [xfl, xrv_cat, xc_i, xc_j, xc_a, xc_f]) (Nat.le_of_ble_eq_true rfl) rfl ?_
  unfold fn168 at hf
  refine ev_do i168_0 rfl ?_
  refine ev_do i168_1 rfl ?_
  refine ev_do i168_3 rfl ?_
  refine sh_aload (i' := 0) (n := 1) i168_4 (Or.inr ⟨rfl, by decide⟩) rfl ?_
  obtain ⟨v_1, ev_1, hf⟩ := x_bind hf
  refine sh_getI i168_5 f168_224 ev_1 ?_
  refine ev_icmp (t := 15) i168_8 rfl (fun c_2 => ?_) (fun c_2 => ?_)
  · replace hf := x_pos (show v_1 < (x1 + x4) from c_2) hf
    refine ev_do i168_15 rfl ?_
    exact j168_16_ok hd rfl rfl hf
  · replace hf := x_neg (show ¬ v_1 < (x1 + x4) from c_2) hf
    refine ev_do i168_11 rfl ?_
    refine sh_goto (t := 16) i168_12 rfl ?_
    exact j168_16_ok hd rfl rfl hf
end
section
def j169_26  (o0 : Option Nat) (x1 : Int32) (x2 : Int32) (h : xH) : Option (Int32 × xH) := some (x2, h)
theorem j169_26_ok {xs : List Int32} {d : Nat} (hd : 2 ≤ d) {o0 : Option Nat} {x1 : Int32} {x2 : Int32} {h : xH} {r : (Int32 × xH)} (hf : j169_26 o0 x1 x2 h = some r) : xEv (xTa xs) d 169 (26, [xrv o0, .int x1, .int x2], [], h) (some (.int r.1), r.2) := by
  unfold j169_26 at hf
  refine ev_do i169_26 rfl ?_
  obtain rfl := Option.some.inj hf
  exact sh_iret i169_27 m169 rfl rfl
def l169_2  : Nat → Option Nat → Int32 → Int32 → xH → Option (Int32 × xH)
  | 0 => fun _ _ _ _ => none
  | n + 1 => fun o0 x1 x2 h => (xgI h o0 11 37).bind fun v_1 => (if v_1 ≤ x2 then j169_26 o0 x1 x2 h else (xcv h o0 11).bind fun _ => (fn167 o0 x2 h).bind fun r_3 => (if r_3.1 = 32 then l169_2 n o0 x1 (x2 + 1) r_3.2 else j169_26 o0 x1 x2 r_3.2))
theorem l169_2_ok {xs : List Int32} {d : Nat} (hd : 2 ≤ d) : ∀ (n : Nat) {o0 : Option Nat} {x1 : Int32} {x2 : Int32} {h : xH} {r : (Int32 × xH)}, l169_2 n o0 x1 x2 h = some r → xEv (xTa xs) d 169 (2, [xrv o0, .int x1, .int x2], [], h) (some (.int r.1), r.2) := by
  intro n
  induction n with
  | zero => intros; rename_i hf; cases hf
  | succ n ih =>
    intro o0 x1 x2 h r hf
    replace hf : ((xgI h o0 11 37).bind fun v_1 => (if v_1 ≤ x2 then j169_26 o0 x1 x2 h else (xcv h o0 11).bind fun _ => (fn167 o0 x2 h).bind fun r_3 => (if r_3.1 = 32 then l169_2 n o0 x1 (x2 + 1) r_3.2 else j169_26 o0 x1 x2 r_3.2))) = some r := hf
    refine ev_do i169_2 rfl ?_
    refine sh_aload (i' := 0) (n := 1) i169_3 (Or.inr ⟨rfl, by decide⟩) rfl ?_
    obtain ⟨v_1, ev_1, hf⟩ := x_bind hf
    refine sh_getI i169_4 f169_224 ev_1 ?_
    refine ev_icmp (t := 26) i169_7 rfl (fun c_2 => ?_) (fun c_2 => ?_)
    · replace hf := x_pos (show v_1 ≤ x2 from c_2) hf
      exact j169_26_ok hd hf
    · replace hf := x_neg (show ¬ v_1 ≤ x2 from c_2) hf
      refine sh_aload (i' := 0) (n := 1) i169_10 (Or.inr ⟨rfl, by decide⟩) rfl ?_
      refine ev_do i169_11 rfl ?_
      obtain ⟨_, eu_5, hf⟩ := x_bind hf
      obtain ⟨r_3, er_3, hf⟩ := x_bind hf
      refine sh_inv (as := [.int x2]) (z := (some (.int r_3.1), r_3.2)) i169_12 v169_227 (Or.inl ⟨by decide, rfl⟩) m167 rfl (Nat.le_of_ble_eq_true rfl) eu_5 (fn167_call (by omega) er_3) ?_
      refine ev_do i169_15 rfl ?_
      refine ev_icmp (t := 26) i169_17 rfl (fun c_4 => ?_) (fun c_4 => ?_)
      · replace hf := x_neg (show ¬ r_3.1 = 32 from c_4) hf
        exact j169_26_ok hd hf
      · replace hf := x_pos (show r_3.1 = 32 from Decidable.byContradiction (fun h9 => c_4 h9)) hf
        refine sh_inc (i' := 2) i169_20 rfl (xokst_of (Nat.le_of_ble_eq_true rfl) rfl) rfl ?_
        refine sh_goto (t := 2) i169_23 rfl ?_
        exact ih hf
def fn169 (o0 : Option Nat) (x1 : Int32) (h : xH) : Option (Int32 × xH) := l169_2 xFuel o0 x1 x1 h
theorem fn169_call {xs : List Int32} {d : Nat} (hd : 3 ≤ d) {o0 : Option Nat} {x1 : Int32} {h : xH} {r : (Int32 × xH)} (hf : fn169 o0 x1 h = some r) : xCall (xTa xs) d 169 [xrv o0, .int x1] h (some (.int r.1), r.2) := by
  obtain ⟨d, rfl⟩ : ∃ d2, d = d2 + 1 := ⟨d - 1, by omega⟩
  replace hd : 2 ≤ d := by omega
  refine call_of2 (fl := [xrv o0, .int x1]) (Ls := [xrv o0, .int x1, .float 0]) m169 (by simp [xfl, xrv_cat, xc_i, xc_j, xc_a, xc_f]) (Nat.le_of_ble_eq_true rfl) rfl ?_
  unfold fn169 at hf
  refine ev_do i169_0 rfl ?_
  refine sh_istore (i' := 2) (n := 1) i169_1 (Or.inr ⟨rfl, by decide⟩) (xokst_of (Nat.le_of_ble_eq_true rfl) rfl) ?_
  exact l169_2_ok hd xFuel hf
end
section
def j170_26  (o0 : Option Nat) (x1 : Int32) (x2 : Int32) (h : xH) : Option (Int32 × xH) := some (x2, h)
theorem j170_26_ok {xs : List Int32} {d : Nat} (hd : 2 ≤ d) {o0 : Option Nat} {x1 : Int32} {x2 : Int32} {h : xH} {r : (Int32 × xH)} (hf : j170_26 o0 x1 x2 h = some r) : xEv (xTa xs) d 170 (26, [xrv o0, .int x1, .int x2], [], h) (some (.int r.1), r.2) := by
  unfold j170_26 at hf
  refine ev_do i170_26 rfl ?_
  obtain rfl := Option.some.inj hf
  exact sh_iret i170_27 m170 rfl rfl
def l170_2  : Nat → Option Nat → Int32 → Int32 → xH → Option (Int32 × xH)
  | 0 => fun _ _ _ _ => none
  | n + 1 => fun o0 x1 x2 h => (xgI h o0 11 37).bind fun v_1 => (if v_1 ≤ x2 then j170_26 o0 x1 x2 h else (xcv h o0 11).bind fun _ => (fn167 o0 x2 h).bind fun r_3 => (if r_3.1 = 32 then j170_26 o0 x1 x2 r_3.2 else l170_2 n o0 x1 (x2 + 1) r_3.2))
theorem l170_2_ok {xs : List Int32} {d : Nat} (hd : 2 ≤ d) : ∀ (n : Nat) {o0 : Option Nat} {x1 : Int32} {x2 : Int32} {h : xH} {r : (Int32 × xH)}, l170_2 n o0 x1 x2 h = some r → xEv (xTa xs) d 170 (2, [xrv o0, .int x1, .int x2], [], h) (some (.int r.1), r.2) := by
  intro n
  induction n with
  | zero => intros; rename_i hf; cases hf
  | succ n ih =>
    intro o0 x1 x2 h r hf
    replace hf : ((xgI h o0 11 37).bind fun v_1 => (if v_1 ≤ x2 then j170_26 o0 x1 x2 h else (xcv h o0 11).bind fun _ => (fn167 o0 x2 h).bind fun r_3 => (if r_3.1 = 32 then j170_26 o0 x1 x2 r_3.2 else l170_2 n o0 x1 (x2 + 1) r_3.2))) = some r := hf
    refine ev_do i170_2 rfl ?_
    refine sh_aload (i' := 0) (n := 1) i170_3 (Or.inr ⟨rfl, by decide⟩) rfl ?_
    obtain ⟨v_1, ev_1, hf⟩ := x_bind hf
    refine sh_getI i170_4 f170_224 ev_1 ?_
    refine ev_icmp (t := 26) i170_7 rfl (fun c_2 => ?_) (fun c_2 => ?_)
    · replace hf := x_pos (show v_1 ≤ x2 from c_2) hf
      exact j170_26_ok hd hf
    · replace hf := x_neg (show ¬ v_1 ≤ x2 from c_2) hf
      refine sh_aload (i' := 0) (n := 1) i170_10 (Or.inr ⟨rfl, by decide⟩) rfl ?_
      refine ev_do i170_11 rfl ?_
      obtain ⟨_, eu_5, hf⟩ := x_bind hf
      obtain ⟨r_3, er_3, hf⟩ := x_bind hf
      refine sh_inv (as := [.int x2]) (z := (some (.int r_3.1), r_3.2)) i170_12 v170_227 (Or.inl ⟨by decide, rfl⟩) m167 rfl (Nat.le_of_ble_eq_true rfl) eu_5 (fn167_call (by omega) er_3) ?_
      refine ev_do i170_15 rfl ?_
      refine ev_icmp (t := 26) i170_17 rfl (fun c_4 => ?_) (fun c_4 => ?_)
      · replace hf := x_pos (show r_3.1 = 32 from c_4) hf
        exact j170_26_ok hd hf
      · replace hf := x_neg (show ¬ r_3.1 = 32 from c_4) hf
        refine sh_inc (i' := 2) i170_20 rfl (xokst_of (Nat.le_of_ble_eq_true rfl) rfl) rfl ?_
        refine sh_goto (t := 2) i170_23 rfl ?_
        exact ih hf
def fn170 (o0 : Option Nat) (x1 : Int32) (h : xH) : Option (Int32 × xH) := l170_2 xFuel o0 x1 x1 h
theorem fn170_call {xs : List Int32} {d : Nat} (hd : 3 ≤ d) {o0 : Option Nat} {x1 : Int32} {h : xH} {r : (Int32 × xH)} (hf : fn170 o0 x1 h = some r) : xCall (xTa xs) d 170 [xrv o0, .int x1] h (some (.int r.1), r.2) := by
  obtain ⟨d, rfl⟩ : ∃ d2, d = d2 + 1 := ⟨d - 1, by omega⟩
  replace hd : 2 ≤ d := by omega
  refine call_of2 (fl := [xrv o0, .int x1]) (Ls := [xrv o0, .int x1, .float 0]) m170 (by simp [xfl, xrv_cat, xc_i, xc_j, xc_a, xc_f]) (Nat.le_of_ble_eq_true rfl) rfl ?_
  unfold fn170 at hf
  refine ev_do i170_0 rfl ?_
  refine sh_istore (i' := 2) (n := 1) i170_1 (Or.inr ⟨rfl, by decide⟩) (xokst_of (Nat.le_of_ble_eq_true rfl) rfl) ?_
  exact l170_2_ok hd xFuel hf
end
section
def j171_336  (o0 : Option Nat) (x1 : Int32) (x2 : Int32) (s0 : Int32) (h : xH) : Option (Int32 × xH) := some (s0, h)
theorem j171_336_ok {xs : List Int32} {d : Nat} (hd : 5 ≤ d) {u3 : Value} {o0 : Option Nat} {x1 : Int32} {x2 : Int32} {s0 : Int32} {h : xH} {r : (Int32 × xH)} (hu3 : u3.category = 1) (hf : j171_336 o0 x1 x2 s0 h = some r) : xEv (xTa xs) d 171 (336, [xrv o0, .int x1, .int x2, u3], [.int s0], h) (some (.int r.1), r.2) := by
  unfold j171_336 at hf
  obtain rfl := Option.some.inj hf
  exact sh_iret i171_336 m171 rfl rfl
def j171_335  (o0 : Option Nat) (x1 : Int32) (x2 : Int32) (h : xH) : Option (Int32 × xH) := j171_336 o0 x1 x2 (-1) h
theorem j171_335_ok {xs : List Int32} {d : Nat} (hd : 5 ≤ d) {u3 : Value} {o0 : Option Nat} {x1 : Int32} {x2 : Int32} {h : xH} {r : (Int32 × xH)} (hu3 : u3.category = 1) (hf : j171_335 o0 x1 x2 h = some r) : xEv (xTa xs) d 171 (335, [xrv o0, .int x1, .int x2, u3], [], h) (some (.int r.1), r.2) := by
  unfold j171_335 at hf
  refine ev_do i171_335 rfl ?_
  exact j171_336_ok hd hu3 hf
def j171_306  (o0 : Option Nat) (x1 : Int32) (x2 : Int32) (h : xH) : Option (Int32 × xH) := (xpF h o0 11 39 .int (.int (x2 + 1))).bind fun h_1 => (xgI h_1 o0 11 37).bind fun v_2 => (if v_2 ≤ x2 then j171_335 o0 x1 x2 h_1 else (xcv h_1 o0 11).bind fun _ => (fn167 o0 x2 h_1).bind fun r_4 => (if r_4.1 = 125 then j171_336 o0 x1 x2 2 r_4.2 else j171_335 o0 x1 x2 r_4.2))
theorem j171_306_ok {xs : List Int32} {d : Nat} (hd : 5 ≤ d) {u3 : Value} {o0 : Option Nat} {x1 : Int32} {x2 : Int32} {h : xH} {r : (Int32 × xH)} (hu3 : u3.category = 1) (hf : j171_306 o0 x1 x2 h = some r) : xEv (xTa xs) d 171 (306, [xrv o0, .int x1, .int x2, u3], [], h) (some (.int r.1), r.2) := by
  unfold j171_306 at hf
  refine sh_aload (i' := 0) (n := 1) i171_306 (Or.inr ⟨rfl, by decide⟩) rfl ?_
  refine ev_do i171_307 rfl ?_
  refine ev_do i171_308 rfl ?_
  refine ev_do i171_309 rfl ?_
  obtain ⟨h_1, eh_1, hf⟩ := x_bind hf
  refine sh_put i171_310 f171_244 (by decide) rfl eh_1 ?_
  refine ev_do i171_313 rfl ?_
  refine sh_aload (i' := 0) (n := 1) i171_314 (Or.inr ⟨rfl, by decide⟩) rfl ?_
  obtain ⟨v_2, ev_2, hf⟩ := x_bind hf
  refine sh_getI i171_315 f171_224 ev_2 ?_
  refine ev_icmp (t := 335) i171_318 rfl (fun c_3 => ?_) (fun c_3 => ?_)
  · replace hf := x_pos (show v_2 ≤ x2 from c_3) hf
    exact j171_335_ok hd hu3 hf
  · replace hf := x_neg (show ¬ v_2 ≤ x2 from c_3) hf
    refine sh_aload (i' := 0) (n := 1) i171_321 (Or.inr ⟨rfl, by decide⟩) rfl ?_
    refine ev_do i171_322 rfl ?_
    obtain ⟨_, eu_6, hf⟩ := x_bind hf
    obtain ⟨r_4, er_4, hf⟩ := x_bind hf
    refine sh_inv (as := [.int x2]) (z := (some (.int r_4.1), r_4.2)) i171_323 v171_227 (Or.inl ⟨by decide, rfl⟩) m167 rfl (Nat.le_of_ble_eq_true rfl) eu_6 (fn167_call (by omega) er_4) ?_
    refine ev_do i171_326 rfl ?_
    refine ev_icmp (t := 335) i171_328 rfl (fun c_5 => ?_) (fun c_5 => ?_)
    · replace hf := x_neg (show ¬ r_4.1 = 125 from c_5) hf
      exact j171_335_ok hd hu3 hf
    · replace hf := x_pos (show r_4.1 = 125 from Decidable.byContradiction (fun h9 => c_5 h9)) hf
      refine ev_do i171_331 rfl ?_
      refine sh_goto (t := 336) i171_332 rfl ?_
      exact j171_336_ok hd hu3 hf
def j171_304  (o0 : Option Nat) (x1 : Int32) (x2 : Int32) (h : xH) : Option (Int32 × xH) := some ((-1), h)
theorem j171_304_ok {xs : List Int32} {d : Nat} (hd : 5 ≤ d) {u3 : Value} {o0 : Option Nat} {x1 : Int32} {x2 : Int32} {h : xH} {r : (Int32 × xH)} (hu3 : u3.category = 1) (hf : j171_304 o0 x1 x2 h = some r) : xEv (xTa xs) d 171 (304, [xrv o0, .int x1, .int x2, u3], [], h) (some (.int r.1), r.2) := by
  unfold j171_304 at hf
  refine ev_do i171_304 rfl ?_
  obtain rfl := Option.some.inj hf
  exact sh_iret i171_305 m171 rfl rfl
def j171_269  (o0 : Option Nat) (x1 : Int32) (x2 : Int32) (h : xH) : Option (Int32 × xH) := (xgI h o0 11 40).bind fun v_1 => (xpF h o0 11 41 .int (.int (x2 - v_1))).bind fun h_2 => (xgI h_2 o0 11 41).bind fun v_3 => (fn141 v_3 1 60 h_2).bind fun r_4 => (if r_4.1 = 0 then j171_304 o0 x1 x2 r_4.2 else (xcv r_4.2 o0 11).bind fun _ => (fn167 o0 (x2 - 1) r_4.2).bind fun r_6 => (if r_6.1 = 32 then j171_304 o0 x1 x2 r_6.2 else j171_306 o0 x1 x2 r_6.2))
theorem j171_269_ok {xs : List Int32} {d : Nat} (hd : 5 ≤ d) {u3 : Value} {o0 : Option Nat} {x1 : Int32} {x2 : Int32} {h : xH} {r : (Int32 × xH)} (hu3 : u3.category = 1) (hf : j171_269 o0 x1 x2 h = some r) : xEv (xTa xs) d 171 (269, [xrv o0, .int x1, .int x2, u3], [], h) (some (.int r.1), r.2) := by
  unfold j171_269 at hf
  refine sh_aload (i' := 0) (n := 1) i171_269 (Or.inr ⟨rfl, by decide⟩) rfl ?_
  refine ev_do i171_270 rfl ?_
  refine sh_aload (i' := 0) (n := 1) i171_271 (Or.inr ⟨rfl, by decide⟩) rfl ?_
  obtain ⟨v_1, ev_1, hf⟩ := x_bind hf
  refine sh_getI i171_272 f171_238 ev_1 ?_
  refine ev_do i171_275 rfl ?_
  obtain ⟨h_2, eh_2, hf⟩ := x_bind hf
  refine sh_put i171_276 f171_241 (by decide) rfl eh_2 ?_
  refine sh_aload (i' := 0) (n := 1) i171_279 (Or.inr ⟨rfl, by decide⟩) rfl ?_
  obtain ⟨v_3, ev_3, hf⟩ := x_bind hf
  refine sh_getI i171_280 f171_241 ev_3 ?_
  refine ev_do i171_283 rfl ?_
  refine ev_do i171_284 rfl ?_
  obtain ⟨r_4, er_4, hf⟩ := x_bind hf
  refine ev_sta (as := [.int 60, .int 1, .int v_3]) (z := (some (.int r_4.1), r_4.2)) i171_286 v171_154 (Or.inl rfl) m141 rfl (Nat.le_of_ble_eq_true rfl) (fn141_call (by omega) er_4) ?_
  refine ev_if (t := 304) i171_289 rfl (fun c_5 => ?_) (fun c_5 => ?_)
  · replace hf := x_pos (show r_4.1 = 0 from c_5) hf
    exact j171_304_ok hd hu3 hf
  · replace hf := x_neg (show ¬ r_4.1 = 0 from c_5) hf
    refine sh_aload (i' := 0) (n := 1) i171_292 (Or.inr ⟨rfl, by decide⟩) rfl ?_
    refine ev_do i171_293 rfl ?_
    refine ev_do i171_294 rfl ?_
    refine ev_do i171_295 rfl ?_
    obtain ⟨_, eu_8, hf⟩ := x_bind hf
    obtain ⟨r_6, er_6, hf⟩ := x_bind hf
    refine sh_inv (as := [.int (x2 - 1)]) (z := (some (.int r_6.1), r_6.2)) i171_296 v171_227 (Or.inl ⟨by decide, rfl⟩) m167 rfl (Nat.le_of_ble_eq_true rfl) eu_8 (fn167_call (by omega) er_6) ?_
    refine ev_do i171_299 rfl ?_
    refine ev_icmp (t := 306) i171_301 rfl (fun c_7 => ?_) (fun c_7 => ?_)
    · replace hf := x_neg (show ¬ r_6.1 = 32 from c_7) hf
      exact j171_306_ok hd hu3 hf
    · replace hf := x_pos (show r_6.1 = 32 from Decidable.byContradiction (fun h9 => c_7 h9)) hf
      exact j171_304_ok hd hu3 hf
def l171_235  : Nat → Option Nat → Int32 → Int32 → xH → Option (Int32 × xH)
  | 0 => fun _ _ _ _ => none
  | n + 1 => fun o0 x1 x2 h => (xgI h o0 11 37).bind fun v_1 => (if v_1 ≤ x2 then j171_269 o0 x1 x2 h else (xcv h o0 11).bind fun _ => (fn167 o0 x2 h).bind fun r_3 => (if r_3.1 = 123 then j171_269 o0 x1 x2 r_3.2 else (xcv r_3.2 o0 11).bind fun _ => (fn167 o0 x2 r_3.2).bind fun r_5 => (if r_5.1 = 125 then j171_269 o0 x1 x2 r_5.2 else l171_235 n o0 x1 (x2 + 1) r_5.2)))
theorem l171_235_ok {xs : List Int32} {d : Nat} (hd : 5 ≤ d) : ∀ (n : Nat) {u3 : Value} {o0 : Option Nat} {x1 : Int32} {x2 : Int32} {h : xH} {r : (Int32 × xH)} (hu3 : u3.category = 1), l171_235 n o0 x1 x2 h = some r → xEv (xTa xs) d 171 (235, [xrv o0, .int x1, .int x2, u3], [], h) (some (.int r.1), r.2) := by
  intro n
  induction n with
  | zero => intros; rename_i hf; cases hf
  | succ n ih =>
    intro u3 o0 x1 x2 h r hu3 hf
    replace hf : ((xgI h o0 11 37).bind fun v_1 => (if v_1 ≤ x2 then j171_269 o0 x1 x2 h else (xcv h o0 11).bind fun _ => (fn167 o0 x2 h).bind fun r_3 => (if r_3.1 = 123 then j171_269 o0 x1 x2 r_3.2 else (xcv r_3.2 o0 11).bind fun _ => (fn167 o0 x2 r_3.2).bind fun r_5 => (if r_5.1 = 125 then j171_269 o0 x1 x2 r_5.2 else l171_235 n o0 x1 (x2 + 1) r_5.2)))) = some r := hf
    refine ev_do i171_235 rfl ?_
    refine sh_aload (i' := 0) (n := 1) i171_236 (Or.inr ⟨rfl, by decide⟩) rfl ?_
    obtain ⟨v_1, ev_1, hf⟩ := x_bind hf
    refine sh_getI i171_237 f171_224 ev_1 ?_
    refine ev_icmp (t := 269) i171_240 rfl (fun c_2 => ?_) (fun c_2 => ?_)
    · replace hf := x_pos (show v_1 ≤ x2 from c_2) hf
      exact j171_269_ok hd hu3 hf
    · replace hf := x_neg (show ¬ v_1 ≤ x2 from c_2) hf
      refine sh_aload (i' := 0) (n := 1) i171_243 (Or.inr ⟨rfl, by decide⟩) rfl ?_
      refine ev_do i171_244 rfl ?_
      obtain ⟨_, eu_8, hf⟩ := x_bind hf
      obtain ⟨r_3, er_3, hf⟩ := x_bind hf
      refine sh_inv (as := [.int x2]) (z := (some (.int r_3.1), r_3.2)) i171_245 v171_227 (Or.inl ⟨by decide, rfl⟩) m167 rfl (Nat.le_of_ble_eq_true rfl) eu_8 (fn167_call (by omega) er_3) ?_
      refine ev_do i171_248 rfl ?_
      refine ev_icmp (t := 269) i171_250 rfl (fun c_4 => ?_) (fun c_4 => ?_)
      · replace hf := x_pos (show r_3.1 = 123 from c_4) hf
        exact j171_269_ok hd hu3 hf
      · replace hf := x_neg (show ¬ r_3.1 = 123 from c_4) hf
        refine sh_aload (i' := 0) (n := 1) i171_253 (Or.inr ⟨rfl, by decide⟩) rfl ?_
        refine ev_do i171_254 rfl ?_
        obtain ⟨_, eu_7, hf⟩ := x_bind hf
        obtain ⟨r_5, er_5, hf⟩ := x_bind hf
        refine sh_inv (as := [.int x2]) (z := (some (.int r_5.1), r_5.2)) i171_255 v171_227 (Or.inl ⟨by decide, rfl⟩) m167 rfl (Nat.le_of_ble_eq_true rfl) eu_7 (fn167_call (by omega) er_5) ?_
        refine ev_do i171_258 rfl ?_
        refine ev_icmp (t := 269) i171_260 rfl (fun c_6 => ?_) (fun c_6 => ?_)
        · replace hf := x_pos (show r_5.1 = 125 from c_6) hf
          exact j171_269_ok hd hu3 hf
        · replace hf := x_neg (show ¬ r_5.1 = 125 from c_6) hf
          refine sh_inc (i' := 2) i171_263 rfl (xokst_of (Nat.le_of_ble_eq_true rfl) rfl) rfl ?_
          refine sh_goto (t := 235) i171_266 rfl ?_
          exact ih hu3 hf
def j171_193  (o0 : Option Nat) (x1 : Int32) (x2 : Int32) (h : xH) : Option (Int32 × xH) := some ((-1), h)
theorem j171_193_ok {xs : List Int32} {d : Nat} (hd : 5 ≤ d) {u3 : Value} {o0 : Option Nat} {x1 : Int32} {x2 : Int32} {h : xH} {r : (Int32 × xH)} (hu3 : u3.category = 1) (hf : j171_193 o0 x1 x2 h = some r) : xEv (xTa xs) d 171 (193, [xrv o0, .int x1, .int x2, u3], [], h) (some (.int r.1), r.2) := by
  unfold j171_193 at hf
  refine ev_do i171_193 rfl ?_
  obtain rfl := Option.some.inj hf
  exact sh_iret i171_194 m171 rfl rfl
def j171_117  (o0 : Option Nat) (x1 : Int32) (x2 : Int32) (x3 : Int32) (s0 : Int32) (h : xH) : Option (Int32 × xH) := some (s0, h)
theorem j171_117_ok {xs : List Int32} {d : Nat} (hd : 5 ≤ d) {o0 : Option Nat} {x1 : Int32} {x2 : Int32} {x3 : Int32} {s0 : Int32} {h : xH} {r : (Int32 × xH)} (hf : j171_117 o0 x1 x2 x3 s0 h = some r) : xEv (xTa xs) d 171 (117, [xrv o0, .int x1, .int x2, .int x3], [.int s0], h) (some (.int r.1), r.2) := by
  unfold j171_117 at hf
  obtain rfl := Option.some.inj hf
  exact sh_iret i171_117 m171 rfl rfl
def j171_116  (o0 : Option Nat) (x1 : Int32) (x2 : Int32) (x3 : Int32) (h : xH) : Option (Int32 × xH) := j171_117 o0 x1 x2 x3 (-1) h
theorem j171_116_ok {xs : List Int32} {d : Nat} (hd : 5 ≤ d) {o0 : Option Nat} {x1 : Int32} {x2 : Int32} {x3 : Int32} {h : xH} {r : (Int32 × xH)} (hf : j171_116 o0 x1 x2 x3 h = some r) : xEv (xTa xs) d 171 (116, [xrv o0, .int x1, .int x2, .int x3], [], h) (some (.int r.1), r.2) := by
  unfold j171_116 at hf
  refine ev_do i171_116 rfl ?_
  exact j171_117_ok hd hf
def j171_70  (o0 : Option Nat) (x1 : Int32) (x2 : Int32) (x3 : Int32) (h : xH) : Option (Int32 × xH) := (xpF h o0 11 40 .int (.int (x1 + 6))).bind fun h_1 => (xgI h_1 o0 11 40).bind fun v_2 => (xpF h_1 o0 11 41 .int (.int ((x3 - 1) - v_2))).bind fun h_3 => (xpF h_3 o0 11 39 .int (.int x3)).bind fun h_4 => (if x2 = 0 then (xgI h_4 o0 11 41).bind fun v_6 => (fn141 v_6 1 60 h_4).bind fun r_7 => (if r_7.1 = 0 then j171_116 o0 x1 x2 x3 r_7.2 else j171_117 o0 x1 x2 x3 1 r_7.2) else j171_116 o0 x1 x2 x3 h_4)
theorem j171_70_ok {xs : List Int32} {d : Nat} (hd : 5 ≤ d) {o0 : Option Nat} {x1 : Int32} {x2 : Int32} {x3 : Int32} {h : xH} {r : (Int32 × xH)} (hf : j171_70 o0 x1 x2 x3 h = some r) : xEv (xTa xs) d 171 (70, [xrv o0, .int x1, .int x2, .int x3], [], h) (some (.int r.1), r.2) := by
  unfold j171_70 at hf
  refine sh_aload (i' := 0) (n := 1) i171_70 (Or.inr ⟨rfl, by decide⟩) rfl ?_
  refine ev_do i171_71 rfl ?_
  refine ev_do i171_72 rfl ?_
  refine ev_do i171_74 rfl ?_
  obtain ⟨h_1, eh_1, hf⟩ := x_bind hf
  refine sh_put i171_75 f171_238 (by decide) rfl eh_1 ?_
  refine sh_aload (i' := 0) (n := 1) i171_78 (Or.inr ⟨rfl, by decide⟩) rfl ?_
  refine ev_do i171_79 rfl ?_
  refine ev_do i171_80 rfl ?_
  refine ev_do i171_81 rfl ?_
  refine sh_aload (i' := 0) (n := 1) i171_82 (Or.inr ⟨rfl, by decide⟩) rfl ?_
  obtain ⟨v_2, ev_2, hf⟩ := x_bind hf
  refine sh_getI i171_83 f171_238 ev_2 ?_
  refine ev_do i171_86 rfl ?_
  obtain ⟨h_3, eh_3, hf⟩ := x_bind hf
  refine sh_put i171_87 f171_241 (by decide) rfl eh_3 ?_
  refine sh_aload (i' := 0) (n := 1) i171_90 (Or.inr ⟨rfl, by decide⟩) rfl ?_
  refine ev_do i171_91 rfl ?_
  obtain ⟨h_4, eh_4, hf⟩ := x_bind hf
  refine sh_put i171_92 f171_244 (by decide) rfl eh_4 ?_
  refine ev_do i171_95 rfl ?_
  refine ev_if (t := 116) i171_96 rfl (fun c_5 => ?_) (fun c_5 => ?_)
  · replace hf := x_neg (show ¬ x2 = 0 from c_5) hf
    exact j171_116_ok hd hf
  · replace hf := x_pos (show x2 = 0 from Decidable.byContradiction (fun h9 => c_5 h9)) hf
    refine sh_aload (i' := 0) (n := 1) i171_99 (Or.inr ⟨rfl, by decide⟩) rfl ?_
    obtain ⟨v_6, ev_6, hf⟩ := x_bind hf
    refine sh_getI i171_100 f171_241 ev_6 ?_
    refine ev_do i171_103 rfl ?_
    refine ev_do i171_104 rfl ?_
    obtain ⟨r_7, er_7, hf⟩ := x_bind hf
    refine ev_sta (as := [.int 60, .int 1, .int v_6]) (z := (some (.int r_7.1), r_7.2)) i171_106 v171_154 (Or.inl rfl) m141 rfl (Nat.le_of_ble_eq_true rfl) (fn141_call (by omega) er_7) ?_
    refine ev_if (t := 116) i171_109 rfl (fun c_8 => ?_) (fun c_8 => ?_)
    · replace hf := x_pos (show r_7.1 = 0 from c_8) hf
      exact j171_116_ok hd hf
    · replace hf := x_neg (show ¬ r_7.1 = 0 from c_8) hf
      refine ev_do i171_112 rfl ?_
      refine sh_goto (t := 117) i171_113 rfl ?_
      exact j171_117_ok hd hf
def j171_62 (k20 : Option Nat → Int32 → Int32 → Int32 → xH → Option (Int32 × xH)) (o0 : Option Nat) (x1 : Int32) (x2 : Int32) (x3 : Int32) (s0 : Int32) (s1 : Int32) (h : xH) : Option (Int32 × xH) := k20 o0 x1 (s0 + s1) (x3 + 1) h
theorem j171_62_ok {xs : List Int32} {d : Nat} (hd : 5 ≤ d) {k20 : Option Nat → Int32 → Int32 → Int32 → xH → Option (Int32 × xH)} (hk20 : ∀ {o0 : Option Nat} {x1 : Int32} {x2 : Int32} {x3 : Int32} {h : xH} {r : (Int32 × xH)}, k20 o0 x1 x2 x3 h = some r → xEv (xTa xs) d 171 (20, [xrv o0, .int x1, .int x2, .int x3], [], h) (some (.int r.1), r.2)) {o0 : Option Nat} {x1 : Int32} {x2 : Int32} {x3 : Int32} {s0 : Int32} {s1 : Int32} {h : xH} {r : (Int32 × xH)} (hf : j171_62 k20 o0 x1 x2 x3 s0 s1 h = some r) : xEv (xTa xs) d 171 (62, [xrv o0, .int x1, .int x2, .int x3], [.int s1, .int s0], h) (some (.int r.1), r.2) := by
  unfold j171_62 at hf
  refine ev_do i171_62 rfl ?_
  refine sh_istore (i' := 2) (n := 1) i171_63 (Or.inr ⟨rfl, by decide⟩) (xokst_of (Nat.le_of_ble_eq_true rfl) rfl) ?_
  refine sh_inc (i' := 3) i171_64 rfl (xokst_of (Nat.le_of_ble_eq_true rfl) rfl) rfl ?_
  refine sh_goto (t := 20) i171_67 rfl ?_
  exact hk20 hf
def l171_20  : Nat → Option Nat → Int32 → Int32 → Int32 → xH → Option (Int32 × xH)
  | 0 => fun _ _ _ _ _ => none
  | n + 1 => fun o0 x1 x2 x3 h => (xgI h o0 11 37).bind fun v_1 => (if v_1 ≤ x3 then j171_70 o0 x1 x2 x3 h else (if x2 ≤ 0 then j171_70 o0 x1 x2 x3 h else (xcv h o0 11).bind fun _ => (fn167 o0 x3 h).bind fun r_4 => (if r_4.1 = 123 then j171_62 (l171_20 n) o0 x1 x2 x3 x2 1 r_4.2 else (xcv r_4.2 o0 11).bind fun _ => (fn167 o0 x3 r_4.2).bind fun r_6 => (if r_6.1 = 125 then j171_62 (l171_20 n) o0 x1 x2 x3 x2 (-1) r_6.2 else j171_62 (l171_20 n) o0 x1 x2 x3 x2 0 r_6.2))))
theorem l171_20_ok {xs : List Int32} {d : Nat} (hd : 5 ≤ d) : ∀ (n : Nat) {o0 : Option Nat} {x1 : Int32} {x2 : Int32} {x3 : Int32} {h : xH} {r : (Int32 × xH)}, l171_20 n o0 x1 x2 x3 h = some r → xEv (xTa xs) d 171 (20, [xrv o0, .int x1, .int x2, .int x3], [], h) (some (.int r.1), r.2) := by
  intro n
  induction n with
  | zero => intros; rename_i hf; cases hf
  | succ n ih =>
    intro o0 x1 x2 x3 h r hf
    replace hf : ((xgI h o0 11 37).bind fun v_1 => (if v_1 ≤ x3 then j171_70 o0 x1 x2 x3 h else (if x2 ≤ 0 then j171_70 o0 x1 x2 x3 h else (xcv h o0 11).bind fun _ => (fn167 o0 x3 h).bind fun r_4 => (if r_4.1 = 123 then j171_62 (l171_20 n) o0 x1 x2 x3 x2 1 r_4.2 else (xcv r_4.2 o0 11).bind fun _ => (fn167 o0 x3 r_4.2).bind fun r_6 => (if r_6.1 = 125 then j171_62 (l171_20 n) o0 x1 x2 x3 x2 (-1) r_6.2 else j171_62 (l171_20 n) o0 x1 x2 x3 x2 0 r_6.2))))) = some r := hf
    refine ev_do i171_20 rfl ?_
    refine sh_aload (i' := 0) (n := 1) i171_21 (Or.inr ⟨rfl, by decide⟩) rfl ?_
    obtain ⟨v_1, ev_1, hf⟩ := x_bind hf
    refine sh_getI i171_22 f171_224 ev_1 ?_
    refine ev_icmp (t := 70) i171_25 rfl (fun c_2 => ?_) (fun c_2 => ?_)
    · replace hf := x_pos (show v_1 ≤ x3 from c_2) hf
      exact j171_70_ok hd hf
    · replace hf := x_neg (show ¬ v_1 ≤ x3 from c_2) hf
      refine ev_do i171_28 rfl ?_
      refine ev_if (t := 70) i171_29 rfl (fun c_3 => ?_) (fun c_3 => ?_)
      · replace hf := x_pos (show x2 ≤ 0 from c_3) hf
        exact j171_70_ok hd hf
      · replace hf := x_neg (show ¬ x2 ≤ 0 from c_3) hf
        refine ev_do i171_32 rfl ?_
        refine sh_aload (i' := 0) (n := 1) i171_33 (Or.inr ⟨rfl, by decide⟩) rfl ?_
        refine ev_do i171_34 rfl ?_
        obtain ⟨_, eu_9, hf⟩ := x_bind hf
        obtain ⟨r_4, er_4, hf⟩ := x_bind hf
        refine sh_inv (as := [.int x3]) (z := (some (.int r_4.1), r_4.2)) i171_35 v171_227 (Or.inl ⟨by decide, rfl⟩) m167 rfl (Nat.le_of_ble_eq_true rfl) eu_9 (fn167_call (by omega) er_4) ?_
        refine ev_do i171_38 rfl ?_
        refine ev_icmp (t := 47) i171_40 rfl (fun c_5 => ?_) (fun c_5 => ?_)
        · replace hf := x_neg (show ¬ r_4.1 = 123 from c_5) hf
          refine sh_aload (i' := 0) (n := 1) i171_47 (Or.inr ⟨rfl, by decide⟩) rfl ?_
          refine ev_do i171_48 rfl ?_
          obtain ⟨_, eu_8, hf⟩ := x_bind hf
          obtain ⟨r_6, er_6, hf⟩ := x_bind hf
          refine sh_inv (as := [.int x3]) (z := (some (.int r_6.1), r_6.2)) i171_49 v171_227 (Or.inl ⟨by decide, rfl⟩) m167 rfl (Nat.le_of_ble_eq_true rfl) eu_8 (fn167_call (by omega) er_6) ?_
          refine ev_do i171_52 rfl ?_
          refine ev_icmp (t := 61) i171_54 rfl (fun c_7 => ?_) (fun c_7 => ?_)
          · replace hf := x_neg (show ¬ r_6.1 = 125 from c_7) hf
            refine ev_do i171_61 rfl ?_
            exact j171_62_ok hd ih hf
          · replace hf := x_pos (show r_6.1 = 125 from Decidable.byContradiction (fun h9 => c_7 h9)) hf
            refine ev_do i171_57 rfl ?_
            refine sh_goto (t := 62) i171_58 rfl ?_
            exact j171_62_ok hd ih hf
        · replace hf := x_pos (show r_4.1 = 123 from Decidable.byContradiction (fun h9 => c_5 h9)) hf
          refine ev_do i171_43 rfl ?_
          refine sh_goto (t := 62) i171_44 rfl ?_
          exact j171_62_ok hd ih hf
def fn171 (o0 : Option Nat) (x1 : Int32) (h : xH) : Option (Int32 × xH) := (xcv h o0 11).bind fun _ => (fn168 o0 x1 135667000829216 6 h).bind fun r_1 => (if r_1.1 = 0 then (xcv r_1.2 o0 11).bind fun _ => (fn168 o0 x1 135705555528480 6 r_1.2).bind fun r_3 => (if r_3.1 = 0 then some ((-1), r_3.2) else (xpF r_3.2 o0 11 42 .int (.int (x1 + 6))).bind fun h_5 => (xgR h_5 o0 11 12).bind fun a_6 => (xgI h_5 o0 11 42).bind fun v_7 => (xgI h_5 o0 11 37).bind fun v_8 => (fn163 a_6 (24000 + v_7) (24000 + v_8) h_5).bind fun r_9 => (xpF r_9.2 o0 11 43 .int (.int r_9.1)).bind fun h_10 => (xgI h_10 o0 11 42).bind fun v_11 => (xgI h_10 o0 11 43).bind fun v_12 => (xgI h_10 o0 11 43).bind fun v_13 => (if v_13 = 0 then j171_193 o0 x1 (v_11 + v_12) h_10 else (xgI h_10 o0 11 37).bind fun v_15 => (if (v_11 + v_12) = v_15 then j171_193 o0 x1 (v_11 + v_12) h_10 else (xgI h_10 o0 11 42).bind fun v_17 => (xpF h_10 o0 11 40 .int (.int v_17)).bind fun h_18 => (xgI h_18 o0 11 43).bind fun v_19 => (xpF h_18 o0 11 41 .int (.int v_19)).bind fun h_20 => (xcv h_20 o0 11).bind fun _ => (fn167 o0 (v_11 + v_12) h_20).bind fun r_21 => (if r_21.1 = 32 then (xcv r_21.2 o0 11).bind fun _ => (fn169 o0 (v_11 + v_12) r_21.2).bind fun r_23 => (xpF r_23.2 o0 11 40 .int (.int r_23.1)).bind fun h_24 => (xgI h_24 o0 11 40).bind fun v_25 => l171_235 xFuel o0 x1 v_25 h_24 else j171_306 o0 x1 (v_11 + v_12) r_21.2)))) else l171_20 xFuel o0 x1 1 (x1 + 6) r_1.2)
theorem fn171_call {xs : List Int32} {d : Nat} (hd : 6 ≤ d) {o0 : Option Nat} {x1 : Int32} {h : xH} {r : (Int32 × xH)} (hf : fn171 o0 x1 h = some r) : xCall (xTa xs) d 171 [xrv o0, .int x1] h (some (.int r.1), r.2) := by
  obtain ⟨d, rfl⟩ : ∃ d2, d = d2 + 1 := ⟨d - 1, by omega⟩
  replace hd : 5 ≤ d := by omega
  refine call_of2 (fl := [xrv o0, .int x1]) (Ls := [xrv o0, .int x1, .float 0, .float 0]) m171 (by simp [xfl, xrv_cat, xc_i, xc_j, xc_a, xc_f]) (Nat.le_of_ble_eq_true rfl) rfl ?_
  unfold fn171 at hf
  refine sh_aload (i' := 0) (n := 1) i171_0 (Or.inr ⟨rfl, by decide⟩) rfl ?_
  refine ev_do i171_1 rfl ?_
  refine ev_do i171_2 (show xpush? 3 ((xtJ (xTa xs) 171 232).map .long) 2 _ _ _ = _ from by rw [w171_232]; rfl) ?_
  refine ev_do i171_5 rfl ?_
  obtain ⟨_, eu_29, hf⟩ := x_bind hf
  obtain ⟨r_1, er_1, hf⟩ := x_bind hf
  refine sh_inv (as := [.int 6, .long 135667000829216, .int x1]) (z := (some (.int r_1.1), r_1.2)) i171_7 v171_234 (Or.inl ⟨by decide, rfl⟩) m168 rfl (Nat.le_of_ble_eq_true rfl) eu_29 (fn168_call (by omega) er_1) ?_
  refine ev_if (t := 118) i171_10 rfl (fun c_2 => ?_) (fun c_2 => ?_)
  · replace hf := x_pos (show r_1.1 = 0 from c_2) hf
    refine sh_aload (i' := 0) (n := 1) i171_118 (Or.inr ⟨rfl, by decide⟩) rfl ?_
    refine ev_do i171_119 rfl ?_
    refine ev_do i171_120 (show xpush? 3 ((xtJ (xTa xs) 171 247).map .long) 120 _ _ _ = _ from by rw [w171_247]; rfl) ?_
    refine ev_do i171_123 rfl ?_
    obtain ⟨_, eu_28, hf⟩ := x_bind hf
    obtain ⟨r_3, er_3, hf⟩ := x_bind hf
    refine sh_inv (as := [.int 6, .long 135705555528480, .int x1]) (z := (some (.int r_3.1), r_3.2)) i171_125 v171_234 (Or.inl ⟨by decide, rfl⟩) m168 rfl (Nat.le_of_ble_eq_true rfl) eu_28 (fn168_call (by omega) er_3) ?_
    refine ev_if (t := 133) i171_128 rfl (fun c_4 => ?_) (fun c_4 => ?_)
    · replace hf := x_neg (show ¬ r_3.1 = 0 from c_4) hf
      refine sh_aload (i' := 0) (n := 1) i171_133 (Or.inr ⟨rfl, by decide⟩) rfl ?_
      refine ev_do i171_134 rfl ?_
      refine ev_do i171_135 rfl ?_
      refine ev_do i171_137 rfl ?_
      obtain ⟨h_5, eh_5, hf⟩ := x_bind hf
      refine sh_put i171_138 f171_249 (by decide) rfl eh_5 ?_
      refine sh_aload (i' := 0) (n := 1) i171_141 (Or.inr ⟨rfl, by decide⟩) rfl ?_
      refine sh_aload (i' := 0) (n := 1) i171_142 (Or.inr ⟨rfl, by decide⟩) rfl ?_
      obtain ⟨a_6, ea_6, hf⟩ := x_bind hf
      refine sh_getR i171_143 f171_41 ea_6 ?_
      refine ev_do i171_146 rfl ?_
      refine sh_aload (i' := 0) (n := 1) i171_149 (Or.inr ⟨rfl, by decide⟩) rfl ?_
      obtain ⟨v_7, ev_7, hf⟩ := x_bind hf
      refine sh_getI i171_150 f171_249 ev_7 ?_
      refine ev_do i171_153 rfl ?_
      refine ev_do i171_154 rfl ?_
      refine sh_aload (i' := 0) (n := 1) i171_157 (Or.inr ⟨rfl, by decide⟩) rfl ?_
      obtain ⟨v_8, ev_8, hf⟩ := x_bind hf
      refine sh_getI i171_158 f171_224 ev_8 ?_
      refine ev_do i171_161 rfl ?_
      obtain ⟨r_9, er_9, hf⟩ := x_bind hf
      refine ev_sta (as := [.int (24000 + v_8), .int (24000 + v_7), xrv a_6]) (z := (some (.int r_9.1), r_9.2)) i171_162 v171_212 (Or.inl rfl) m163 rfl (by simp [xcat, xrv_cat, xc_i, xc_j, xc_a, xc_f]) (fn163_call (by omega) er_9) ?_
      obtain ⟨h_10, eh_10, hf⟩ := x_bind hf
      refine sh_put i171_165 f171_252 (by decide) rfl eh_10 ?_
      refine sh_aload (i' := 0) (n := 1) i171_168 (Or.inr ⟨rfl, by decide⟩) rfl ?_
      obtain ⟨v_11, ev_11, hf⟩ := x_bind hf
      refine sh_getI i171_169 f171_249 ev_11 ?_
      refine sh_aload (i' := 0) (n := 1) i171_172 (Or.inr ⟨rfl, by decide⟩) rfl ?_
      obtain ⟨v_12, ev_12, hf⟩ := x_bind hf
      refine sh_getI i171_173 f171_252 ev_12 ?_
      refine ev_do i171_176 rfl ?_
      refine sh_istore (i' := 2) (n := 1) i171_177 (Or.inr ⟨rfl, by decide⟩) (xokst_of (Nat.le_of_ble_eq_true rfl) rfl) ?_
      refine sh_aload (i' := 0) (n := 1) i171_178 (Or.inr ⟨rfl, by decide⟩) rfl ?_
      obtain ⟨v_13, ev_13, hf⟩ := x_bind hf
      refine sh_getI i171_179 f171_252 ev_13 ?_
      refine ev_if (t := 193) i171_182 rfl (fun c_14 => ?_) (fun c_14 => ?_)
      · replace hf := x_pos (show v_13 = 0 from c_14) hf
        exact j171_193_ok hd rfl hf
      · replace hf := x_neg (show ¬ v_13 = 0 from c_14) hf
        refine ev_do i171_185 rfl ?_
        refine sh_aload (i' := 0) (n := 1) i171_186 (Or.inr ⟨rfl, by decide⟩) rfl ?_
        obtain ⟨v_15, ev_15, hf⟩ := x_bind hf
        refine sh_getI i171_187 f171_224 ev_15 ?_
        refine ev_icmp (t := 195) i171_190 rfl (fun c_16 => ?_) (fun c_16 => ?_)
        · replace hf := x_neg (show ¬ (v_11 + v_12) = v_15 from c_16) hf
          refine sh_aload (i' := 0) (n := 1) i171_195 (Or.inr ⟨rfl, by decide⟩) rfl ?_
          refine sh_aload (i' := 0) (n := 1) i171_196 (Or.inr ⟨rfl, by decide⟩) rfl ?_
          obtain ⟨v_17, ev_17, hf⟩ := x_bind hf
          refine sh_getI i171_197 f171_249 ev_17 ?_
          obtain ⟨h_18, eh_18, hf⟩ := x_bind hf
          refine sh_put i171_200 f171_238 (by decide) rfl eh_18 ?_
          refine sh_aload (i' := 0) (n := 1) i171_203 (Or.inr ⟨rfl, by decide⟩) rfl ?_
          refine sh_aload (i' := 0) (n := 1) i171_204 (Or.inr ⟨rfl, by decide⟩) rfl ?_
          obtain ⟨v_19, ev_19, hf⟩ := x_bind hf
          refine sh_getI i171_205 f171_252 ev_19 ?_
          obtain ⟨h_20, eh_20, hf⟩ := x_bind hf
          refine sh_put i171_208 f171_241 (by decide) rfl eh_20 ?_
          refine sh_aload (i' := 0) (n := 1) i171_211 (Or.inr ⟨rfl, by decide⟩) rfl ?_
          refine ev_do i171_212 rfl ?_
          obtain ⟨_, eu_27, hf⟩ := x_bind hf
          obtain ⟨r_21, er_21, hf⟩ := x_bind hf
          refine sh_inv (as := [.int (v_11 + v_12)]) (z := (some (.int r_21.1), r_21.2)) i171_213 v171_227 (Or.inl ⟨by decide, rfl⟩) m167 rfl (Nat.le_of_ble_eq_true rfl) eu_27 (fn167_call (by omega) er_21) ?_
          refine ev_do i171_216 rfl ?_
          refine ev_icmp (t := 306) i171_218 rfl (fun c_22 => ?_) (fun c_22 => ?_)
          · replace hf := x_neg (show ¬ r_21.1 = 32 from c_22) hf
            exact j171_306_ok hd rfl hf
          · replace hf := x_pos (show r_21.1 = 32 from Decidable.byContradiction (fun h9 => c_22 h9)) hf
            refine sh_aload (i' := 0) (n := 1) i171_221 (Or.inr ⟨rfl, by decide⟩) rfl ?_
            refine sh_aload (i' := 0) (n := 1) i171_222 (Or.inr ⟨rfl, by decide⟩) rfl ?_
            refine ev_do i171_223 rfl ?_
            obtain ⟨_, eu_26, hf⟩ := x_bind hf
            obtain ⟨r_23, er_23, hf⟩ := x_bind hf
            refine sh_inv (as := [.int (v_11 + v_12)]) (z := (some (.int r_23.1), r_23.2)) i171_224 v171_255 (Or.inl ⟨by decide, rfl⟩) m169 rfl (by simp [xcat, xrv_cat, xc_i, xc_j, xc_a, xc_f]) eu_26 (fn169_call (by omega) er_23) ?_
            obtain ⟨h_24, eh_24, hf⟩ := x_bind hf
            refine sh_put i171_227 f171_238 (by decide) rfl eh_24 ?_
            refine sh_aload (i' := 0) (n := 1) i171_230 (Or.inr ⟨rfl, by decide⟩) rfl ?_
            obtain ⟨v_25, ev_25, hf⟩ := x_bind hf
            refine sh_getI i171_231 f171_238 ev_25 ?_
            refine sh_istore (i' := 2) (n := 1) i171_234 (Or.inr ⟨rfl, by decide⟩) (xokst_of (Nat.le_of_ble_eq_true rfl) rfl) ?_
            exact l171_235_ok hd xFuel rfl hf
        · replace hf := x_pos (show (v_11 + v_12) = v_15 from Decidable.byContradiction (fun h9 => c_16 h9)) hf
          exact j171_193_ok hd rfl hf
    · replace hf := x_pos (show r_3.1 = 0 from Decidable.byContradiction (fun h9 => c_4 h9)) hf
      refine ev_do i171_131 rfl ?_
      obtain rfl := Option.some.inj hf
      exact sh_iret i171_132 m171 rfl rfl
  · replace hf := x_neg (show ¬ r_1.1 = 0 from c_2) hf
    refine ev_do i171_13 rfl ?_
    refine sh_istore (i' := 2) (n := 1) i171_14 (Or.inr ⟨rfl, by decide⟩) (xokst_of (Nat.le_of_ble_eq_true rfl) rfl) ?_
    refine ev_do i171_15 rfl ?_
    refine ev_do i171_16 rfl ?_
    refine ev_do i171_18 rfl ?_
    refine sh_istore (i' := 3) (n := 1) i171_19 (Or.inr ⟨rfl, by decide⟩) (xokst_of (Nat.le_of_ble_eq_true rfl) rfl) ?_
    exact l171_20_ok hd xFuel hf
end
