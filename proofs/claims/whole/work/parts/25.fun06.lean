section
def j136_17  (x0 : Int32) (s0 : Int32) (h : xH) : Option (Int32 × xH) := (if s0 &&& 1 = s0 then some (s0, h) else none)
theorem j136_17_ok {xs : List Int32} {d : Nat} (hd : 1 ≤ d) {x0 : Int32} {s0 : Int32} {h : xH} {r : (Int32 × xH)} (hf : j136_17 x0 s0 h = some r) : xEv (xTa xs) d 136 (17, [.int x0], [.int s0], h) (some (.int r.1), r.2) := by
  unfold j136_17 at hf
  by_cases c_1 : s0 &&& 1 = s0
  · replace hf := x_pos c_1 hf
    obtain rfl := Option.some.inj hf
    exact sh_iret i136_17 m136 rfl (congrArg Value.int c_1)
  · replace hf := x_neg c_1 hf
    cases hf
def j136_16  (x0 : Int32) (h : xH) : Option (Int32 × xH) := j136_17 x0 0 h
theorem j136_16_ok {xs : List Int32} {d : Nat} (hd : 1 ≤ d) {x0 : Int32} {h : xH} {r : (Int32 × xH)} (hf : j136_16 x0 h = some r) : xEv (xTa xs) d 136 (16, [.int x0], [], h) (some (.int r.1), r.2) := by
  unfold j136_16 at hf
  refine ev_do i136_16 rfl ?_
  exact j136_17_ok hd hf
def fn136 (x0 : Int32) (h : xH) : Option (Int32 × xH) := (if x0 < 48 then j136_16 x0 h else (if 57 < x0 then j136_16 x0 h else j136_17 x0 1 h))
theorem fn136_call {xs : List Int32} {d : Nat} (hd : 2 ≤ d) {x0 : Int32} {h : xH} {r : (Int32 × xH)} (hf : fn136 x0 h = some r) : xCall (xTa xs) d 136 [.int x0] h (some (.int r.1), r.2) := by
  obtain ⟨d, rfl⟩ : ∃ d2, d = d2 + 1 := ⟨d - 1, by omega⟩
  replace hd : 1 ≤ d := by omega
  refine call_of2 (fl := [.int x0]) (Ls := [.int x0]) m136 (by simp [xfl, xrv_cat, xc_i, xc_j, xc_a, xc_f]) (Nat.le_of_ble_eq_true rfl) rfl ?_
  unfold fn136 at hf
  refine ev_do i136_0 rfl ?_
  refine ev_do i136_1 rfl ?_
  refine ev_icmp (t := 16) i136_3 rfl (fun c_1 => ?_) (fun c_1 => ?_)
  · replace hf := x_pos (show x0 < 48 from c_1) hf
    exact j136_16_ok hd hf
  · replace hf := x_neg (show ¬ x0 < 48 from c_1) hf
    refine ev_do i136_6 rfl ?_
    refine ev_do i136_7 rfl ?_
    refine ev_icmp (t := 16) i136_9 rfl (fun c_2 => ?_) (fun c_2 => ?_)
    · replace hf := x_pos (show 57 < x0 from c_2) hf
      exact j136_16_ok hd hf
    · replace hf := x_neg (show ¬ 57 < x0 from c_2) hf
      refine ev_do i136_12 rfl ?_
      refine sh_goto (t := 17) i136_13 rfl ?_
      exact j136_17_ok hd hf
end
section
def j137_29  (x0 : Int32) (s0 : Int32) (h : xH) : Option (Int32 × xH) := (if s0 &&& 1 = s0 then some (s0, h) else none)
theorem j137_29_ok {xs : List Int32} {d : Nat} (hd : 1 ≤ d) {x0 : Int32} {s0 : Int32} {h : xH} {r : (Int32 × xH)} (hf : j137_29 x0 s0 h = some r) : xEv (xTa xs) d 137 (29, [.int x0], [.int s0], h) (some (.int r.1), r.2) := by
  unfold j137_29 at hf
  by_cases c_1 : s0 &&& 1 = s0
  · replace hf := x_pos c_1 hf
    obtain rfl := Option.some.inj hf
    exact sh_iret i137_29 m137 rfl (congrArg Value.int c_1)
  · replace hf := x_neg c_1 hf
    cases hf
def j137_28  (x0 : Int32) (h : xH) : Option (Int32 × xH) := j137_29 x0 0 h
theorem j137_28_ok {xs : List Int32} {d : Nat} (hd : 1 ≤ d) {x0 : Int32} {h : xH} {r : (Int32 × xH)} (hf : j137_28 x0 h = some r) : xEv (xTa xs) d 137 (28, [.int x0], [], h) (some (.int r.1), r.2) := by
  unfold j137_28 at hf
  refine ev_do i137_28 rfl ?_
  exact j137_29_ok hd hf
def j137_24  (x0 : Int32) (h : xH) : Option (Int32 × xH) := j137_29 x0 1 h
theorem j137_24_ok {xs : List Int32} {d : Nat} (hd : 1 ≤ d) {x0 : Int32} {h : xH} {r : (Int32 × xH)} (hf : j137_24 x0 h = some r) : xEv (xTa xs) d 137 (24, [.int x0], [], h) (some (.int r.1), r.2) := by
  unfold j137_24 at hf
  refine ev_do i137_24 rfl ?_
  refine sh_goto (t := 29) i137_25 rfl ?_
  exact j137_29_ok hd hf
def j137_12  (x0 : Int32) (h : xH) : Option (Int32 × xH) := (if x0 < 97 then j137_28 x0 h else (if 122 < x0 then j137_28 x0 h else j137_24 x0 h))
theorem j137_12_ok {xs : List Int32} {d : Nat} (hd : 1 ≤ d) {x0 : Int32} {h : xH} {r : (Int32 × xH)} (hf : j137_12 x0 h = some r) : xEv (xTa xs) d 137 (12, [.int x0], [], h) (some (.int r.1), r.2) := by
  unfold j137_12 at hf
  refine ev_do i137_12 rfl ?_
  refine ev_do i137_13 rfl ?_
  refine ev_icmp (t := 28) i137_15 rfl (fun c_1 => ?_) (fun c_1 => ?_)
  · replace hf := x_pos (show x0 < 97 from c_1) hf
    exact j137_28_ok hd hf
  · replace hf := x_neg (show ¬ x0 < 97 from c_1) hf
    refine ev_do i137_18 rfl ?_
    refine ev_do i137_19 rfl ?_
    refine ev_icmp (t := 28) i137_21 rfl (fun c_2 => ?_) (fun c_2 => ?_)
    · replace hf := x_pos (show 122 < x0 from c_2) hf
      exact j137_28_ok hd hf
    · replace hf := x_neg (show ¬ 122 < x0 from c_2) hf
      exact j137_24_ok hd hf
def fn137 (x0 : Int32) (h : xH) : Option (Int32 × xH) := (if x0 < 65 then j137_12 x0 h else (if x0 ≤ 90 then j137_24 x0 h else j137_12 x0 h))
theorem fn137_call {xs : List Int32} {d : Nat} (hd : 2 ≤ d) {x0 : Int32} {h : xH} {r : (Int32 × xH)} (hf : fn137 x0 h = some r) : xCall (xTa xs) d 137 [.int x0] h (some (.int r.1), r.2) := by
  obtain ⟨d, rfl⟩ : ∃ d2, d = d2 + 1 := ⟨d - 1, by omega⟩
  replace hd : 1 ≤ d := by omega
  refine call_of2 (fl := [.int x0]) (Ls := [.int x0]) m137 (by simp [xfl, xrv_cat, xc_i, xc_j, xc_a, xc_f]) (Nat.le_of_ble_eq_true rfl) rfl ?_
  unfold fn137 at hf
  refine ev_do i137_0 rfl ?_
  refine ev_do i137_1 rfl ?_
  refine ev_icmp (t := 12) i137_3 rfl (fun c_1 => ?_) (fun c_1 => ?_)
  · replace hf := x_pos (show x0 < 65 from c_1) hf
    exact j137_12_ok hd hf
  · replace hf := x_neg (show ¬ x0 < 65 from c_1) hf
    refine ev_do i137_6 rfl ?_
    refine ev_do i137_7 rfl ?_
    refine ev_icmp (t := 24) i137_9 rfl (fun c_2 => ?_) (fun c_2 => ?_)
    · replace hf := x_pos (show x0 ≤ 90 from c_2) hf
      exact j137_24_ok hd hf
    · replace hf := x_neg (show ¬ x0 ≤ 90 from c_2) hf
      exact j137_12_ok hd hf
end
section
def j107_68  (o0 : Option Nat) (x1 : Int32) (x2 : Int32) (x3 : Int32) (s0 : Int32) (h : xH) : Option (Int32 × xH) := (if s0 &&& 1 = s0 then some (s0, h) else none)
theorem j107_68_ok {xs : List Int32} {d : Nat} (hd : 2 ≤ d) {o0 : Option Nat} {x1 : Int32} {x2 : Int32} {x3 : Int32} {s0 : Int32} {h : xH} {r : (Int32 × xH)} (hf : j107_68 o0 x1 x2 x3 s0 h = some r) : xEv (xTa xs) d 107 (68, [xrv o0, .int x1, .int x2, .int x3], [.int s0], h) (some (.int r.1), r.2) := by
  unfold j107_68 at hf
  by_cases c_1 : s0 &&& 1 = s0
  · replace hf := x_pos c_1 hf
    obtain rfl := Option.some.inj hf
    exact sh_iret i107_68 m107 rfl (congrArg Value.int c_1)
  · replace hf := x_neg c_1 hf
    cases hf
def j107_52 (k23 : Option Nat → Int32 → Int32 → Int32 → xH → Option (Int32 × xH)) (o0 : Option Nat) (x1 : Int32) (x2 : Int32) (x3 : Int32) (h : xH) : Option (Int32 × xH) := k23 o0 x1 x2 (x3 + 1) h
theorem j107_52_ok {xs : List Int32} {d : Nat} (hd : 2 ≤ d) {k23 : Option Nat → Int32 → Int32 → Int32 → xH → Option (Int32 × xH)} (hk23 : ∀ {o0 : Option Nat} {x1 : Int32} {x2 : Int32} {x3 : Int32} {h : xH} {r : (Int32 × xH)}, k23 o0 x1 x2 x3 h = some r → xEv (xTa xs) d 107 (23, [xrv o0, .int x1, .int x2, .int x3], [], h) (some (.int r.1), r.2)) {o0 : Option Nat} {x1 : Int32} {x2 : Int32} {x3 : Int32} {h : xH} {r : (Int32 × xH)} (hf : j107_52 k23 o0 x1 x2 x3 h = some r) : xEv (xTa xs) d 107 (52, [xrv o0, .int x1, .int x2, .int x3], [], h) (some (.int r.1), r.2) := by
  unfold j107_52 at hf
  refine sh_inc (i' := 3) i107_52 rfl (xokst_of (Nat.le_of_ble_eq_true rfl) rfl) rfl ?_
  refine sh_goto (t := 23) i107_55 rfl ?_
  exact hk23 hf
def l107_23  : Nat → Option Nat → Int32 → Int32 → Int32 → xH → Option (Int32 × xH)
  | 0 => fun _ _ _ _ _ => none
  | n + 1 => fun o0 x1 x2 x3 h => (if x2 ≤ x3 then (if x2 ≤ x1 then j107_68 o0 x1 x2 x3 0 h else j107_68 o0 x1 x2 x3 1 h) else (xcv h o0 9).bind fun _ => (fn96 o0 x3 h).bind fun r_3 => (fn137 r_3.1 r_3.2).bind fun r_4 => (if r_4.1 = 0 then (xcv r_4.2 o0 9).bind fun _ => (fn96 o0 x3 r_4.2).bind fun r_6 => (fn136 r_6.1 r_6.2).bind fun r_7 => (if r_7.1 = 0 then some (0, r_7.2) else j107_52 (l107_23 n) o0 x1 x2 x3 r_7.2) else j107_52 (l107_23 n) o0 x1 x2 x3 r_4.2))
theorem l107_23_ok {xs : List Int32} {d : Nat} (hd : 2 ≤ d) : ∀ (n : Nat) {o0 : Option Nat} {x1 : Int32} {x2 : Int32} {x3 : Int32} {h : xH} {r : (Int32 × xH)}, l107_23 n o0 x1 x2 x3 h = some r → xEv (xTa xs) d 107 (23, [xrv o0, .int x1, .int x2, .int x3], [], h) (some (.int r.1), r.2) := by
  intro n
  induction n with
  | zero => intros; rename_i hf; cases hf
  | succ n ih =>
    intro o0 x1 x2 x3 h r hf
    replace hf : ((if x2 ≤ x3 then (if x2 ≤ x1 then j107_68 o0 x1 x2 x3 0 h else j107_68 o0 x1 x2 x3 1 h) else (xcv h o0 9).bind fun _ => (fn96 o0 x3 h).bind fun r_3 => (fn137 r_3.1 r_3.2).bind fun r_4 => (if r_4.1 = 0 then (xcv r_4.2 o0 9).bind fun _ => (fn96 o0 x3 r_4.2).bind fun r_6 => (fn136 r_6.1 r_6.2).bind fun r_7 => (if r_7.1 = 0 then some (0, r_7.2) else j107_52 (l107_23 n) o0 x1 x2 x3 r_7.2) else j107_52 (l107_23 n) o0 x1 x2 x3 r_4.2))) = some r := hf
    refine ev_do i107_23 rfl ?_
    refine ev_do i107_24 rfl ?_
    refine ev_icmp (t := 58) i107_25 rfl (fun c_1 => ?_) (fun c_1 => ?_)
    · replace hf := x_pos (show x2 ≤ x3 from c_1) hf
      refine ev_do i107_58 rfl ?_
      refine ev_do i107_59 rfl ?_
      refine ev_icmp (t := 67) i107_60 rfl (fun c_2 => ?_) (fun c_2 => ?_)
      · replace hf := x_pos (show x2 ≤ x1 from c_2) hf
        refine ev_do i107_67 rfl ?_
        exact j107_68_ok hd hf
      · replace hf := x_neg (show ¬ x2 ≤ x1 from c_2) hf
        refine ev_do i107_63 rfl ?_
        refine sh_goto (t := 68) i107_64 rfl ?_
        exact j107_68_ok hd hf
    · replace hf := x_neg (show ¬ x2 ≤ x3 from c_1) hf
      refine sh_aload (i' := 0) (n := 1) i107_28 (Or.inr ⟨rfl, by decide⟩) rfl ?_
      refine ev_do i107_29 rfl ?_
      obtain ⟨_, eu_10, hf⟩ := x_bind hf
      obtain ⟨r_3, er_3, hf⟩ := x_bind hf
      refine sh_inv (as := [.int x3]) (z := (some (.int r_3.1), r_3.2)) i107_30 v107_39 (Or.inl ⟨by decide, rfl⟩) m96 rfl (Nat.le_of_ble_eq_true rfl) eu_10 (fn96_call (by omega) er_3) ?_
      obtain ⟨r_4, er_4, hf⟩ := x_bind hf
      refine ev_sta (as := [.int r_3.1]) (z := (some (.int r_4.1), r_4.2)) i107_33 v107_47 (Or.inr rfl) m137 rfl (Nat.le_of_ble_eq_true rfl) (fn137_call (by omega) er_4) ?_
      refine ev_if (t := 52) i107_36 rfl (fun c_5 => ?_) (fun c_5 => ?_)
      · replace hf := x_neg (show ¬ r_4.1 = 0 from c_5) hf
        exact j107_52_ok hd ih hf
      · replace hf := x_pos (show r_4.1 = 0 from Decidable.byContradiction (fun h9 => c_5 h9)) hf
        refine sh_aload (i' := 0) (n := 1) i107_39 (Or.inr ⟨rfl, by decide⟩) rfl ?_
        refine ev_do i107_40 rfl ?_
        obtain ⟨_, eu_9, hf⟩ := x_bind hf
        obtain ⟨r_6, er_6, hf⟩ := x_bind hf
        refine sh_inv (as := [.int x3]) (z := (some (.int r_6.1), r_6.2)) i107_41 v107_39 (Or.inl ⟨by decide, rfl⟩) m96 rfl (Nat.le_of_ble_eq_true rfl) eu_9 (fn96_call (by omega) er_6) ?_
        obtain ⟨r_7, er_7, hf⟩ := x_bind hf
        refine ev_sta (as := [.int r_6.1]) (z := (some (.int r_7.1), r_7.2)) i107_44 v107_50 (Or.inr rfl) m136 rfl (Nat.le_of_ble_eq_true rfl) (fn136_call (by omega) er_7) ?_
        refine ev_if (t := 52) i107_47 rfl (fun c_8 => ?_) (fun c_8 => ?_)
        · replace hf := x_neg (show ¬ r_7.1 = 0 from c_8) hf
          exact j107_52_ok hd ih hf
        · replace hf := x_pos (show r_7.1 = 0 from Decidable.byContradiction (fun h9 => c_8 h9)) hf
          refine ev_do i107_50 rfl ?_
          obtain rfl := Option.some.inj hf
          exact sh_iret i107_51 m107 rfl (by decide)
def j107_19  (o0 : Option Nat) (x1 : Int32) (x2 : Int32) (h : xH) : Option (Int32 × xH) := some (0, h)
theorem j107_19_ok {xs : List Int32} {d : Nat} (hd : 2 ≤ d) {u3 : Value} {o0 : Option Nat} {x1 : Int32} {x2 : Int32} {h : xH} {r : (Int32 × xH)} (hu3 : u3.category = 1) (hf : j107_19 o0 x1 x2 h = some r) : xEv (xTa xs) d 107 (19, [xrv o0, .int x1, .int x2, u3], [], h) (some (.int r.1), r.2) := by
  unfold j107_19 at hf
  refine ev_do i107_19 rfl ?_
  obtain rfl := Option.some.inj hf
  exact sh_iret i107_20 m107 rfl (by decide)
def fn107 (o0 : Option Nat) (x1 : Int32) (x2 : Int32) (h : xH) : Option (Int32 × xH) := (if 10 < (x2 - x1) then j107_19 o0 x1 x2 h else (xcv h o0 9).bind fun _ => (fn96 o0 x1 h).bind fun r_2 => (fn137 r_2.1 r_2.2).bind fun r_3 => (if r_3.1 = 0 then j107_19 o0 x1 x2 r_3.2 else l107_23 xFuel o0 x1 x2 x1 r_3.2))
theorem fn107_call {xs : List Int32} {d : Nat} (hd : 3 ≤ d) {o0 : Option Nat} {x1 : Int32} {x2 : Int32} {h : xH} {r : (Int32 × xH)} (hf : fn107 o0 x1 x2 h = some r) : xCall (xTa xs) d 107 [xrv o0, .int x1, .int x2] h (some (.int r.1), r.2) := by
  obtain ⟨d, rfl⟩ : ∃ d2, d = d2 + 1 := ⟨d - 1, by omega⟩
  replace hd : 2 ≤ d := by omega
  refine call_of2 (fl := [xrv o0, .int x1, .int x2]) (Ls := [xrv o0, .int x1, .int x2, .float 0]) m107 (by simp [xfl, xrv_cat, xc_i, xc_j, xc_a, xc_f]) (Nat.le_of_ble_eq_true rfl) rfl ?_
  unfold fn107 at hf
  refine ev_do i107_0 rfl ?_
  refine ev_do i107_1 rfl ?_
  refine ev_do i107_2 rfl ?_
  refine ev_do i107_3 rfl ?_
  refine ev_icmp (t := 19) i107_5 rfl (fun c_1 => ?_) (fun c_1 => ?_)
  · replace hf := x_pos (show 10 < (x2 - x1) from c_1) hf
    exact j107_19_ok hd rfl hf
  · replace hf := x_neg (show ¬ 10 < (x2 - x1) from c_1) hf
    refine sh_aload (i' := 0) (n := 1) i107_8 (Or.inr ⟨rfl, by decide⟩) rfl ?_
    refine ev_do i107_9 rfl ?_
    obtain ⟨_, eu_5, hf⟩ := x_bind hf
    obtain ⟨r_2, er_2, hf⟩ := x_bind hf
    refine sh_inv (as := [.int x1]) (z := (some (.int r_2.1), r_2.2)) i107_10 v107_39 (Or.inl ⟨by decide, rfl⟩) m96 rfl (Nat.le_of_ble_eq_true rfl) eu_5 (fn96_call (by omega) er_2) ?_
    obtain ⟨r_3, er_3, hf⟩ := x_bind hf
    refine ev_sta (as := [.int r_2.1]) (z := (some (.int r_3.1), r_3.2)) i107_13 v107_47 (Or.inr rfl) m137 rfl (Nat.le_of_ble_eq_true rfl) (fn137_call (by omega) er_3) ?_
    refine ev_if (t := 21) i107_16 rfl (fun c_4 => ?_) (fun c_4 => ?_)
    · replace hf := x_neg (show ¬ r_3.1 = 0 from c_4) hf
      refine ev_do i107_21 rfl ?_
      refine sh_istore (i' := 3) (n := 1) i107_22 (Or.inr ⟨rfl, by decide⟩) (xokst_of (Nat.le_of_ble_eq_true rfl) rfl) ?_
      exact l107_23_ok hd xFuel hf
    · replace hf := x_pos (show r_3.1 = 0 from Decidable.byContradiction (fun h9 => c_4 h9)) hf
      exact j107_19_ok hd rfl hf
end
section
def j109_39  (o0 : Option Nat) (x1 : Int32) (x2 : Int32) (x3 : Int32) (s0 : Int32) (h : xH) : Option (Int32 × xH) := (if s0 &&& 1 = s0 then some (s0, h) else none)
theorem j109_39_ok {xs : List Int32} {d : Nat} (hd : 3 ≤ d) {o0 : Option Nat} {x1 : Int32} {x2 : Int32} {x3 : Int32} {s0 : Int32} {h : xH} {r : (Int32 × xH)} (hf : j109_39 o0 x1 x2 x3 s0 h = some r) : xEv (xTa xs) d 109 (39, [xrv o0, .int x1, .int x2, .int x3], [.int s0], h) (some (.int r.1), r.2) := by
  unfold j109_39 at hf
  by_cases c_1 : s0 &&& 1 = s0
  · replace hf := x_pos c_1 hf
    obtain rfl := Option.some.inj hf
    exact sh_iret i109_39 m109 rfl (congrArg Value.int c_1)
  · replace hf := x_neg c_1 hf
    cases hf
def j109_38  (o0 : Option Nat) (x1 : Int32) (x2 : Int32) (x3 : Int32) (h : xH) : Option (Int32 × xH) := j109_39 o0 x1 x2 x3 0 h
theorem j109_38_ok {xs : List Int32} {d : Nat} (hd : 3 ≤ d) {o0 : Option Nat} {x1 : Int32} {x2 : Int32} {x3 : Int32} {h : xH} {r : (Int32 × xH)} (hf : j109_38 o0 x1 x2 x3 h = some r) : xEv (xTa xs) d 109 (38, [xrv o0, .int x1, .int x2, .int x3], [], h) (some (.int r.1), r.2) := by
  unfold j109_38 at hf
  refine ev_do i109_38 rfl ?_
  exact j109_39_ok hd hf
def j109_34  (o0 : Option Nat) (x1 : Int32) (x2 : Int32) (x3 : Int32) (h : xH) : Option (Int32 × xH) := j109_39 o0 x1 x2 x3 1 h
theorem j109_34_ok {xs : List Int32} {d : Nat} (hd : 3 ≤ d) {o0 : Option Nat} {x1 : Int32} {x2 : Int32} {x3 : Int32} {h : xH} {r : (Int32 × xH)} (hf : j109_34 o0 x1 x2 x3 h = some r) : xEv (xTa xs) d 109 (34, [xrv o0, .int x1, .int x2, .int x3], [], h) (some (.int r.1), r.2) := by
  unfold j109_34 at hf
  refine ev_do i109_34 rfl ?_
  refine sh_goto (t := 39) i109_35 rfl ?_
  exact j109_39_ok hd hf
def fn109 (o0 : Option Nat) (x1 : Int32) (x2 : Int32) (h : xH) : Option (Int32 × xH) := (xcv h o0 9).bind fun _ => (fn105 o0 46 x1 x2 h).bind fun r_1 => (xcv r_1.2 o0 9).bind fun _ => (fn107 o0 x1 r_1.1 r_1.2).bind fun r_2 => (if r_2.1 = 0 then j109_38 o0 x1 x2 r_1.1 r_2.2 else (if r_1.1 = x2 then j109_34 o0 x1 x2 r_1.1 r_2.2 else (xcv r_2.2 o0 9).bind fun _ => (fn107 o0 (r_1.1 + 1) x2 r_2.2).bind fun r_5 => (if r_5.1 = 0 then j109_38 o0 x1 x2 r_1.1 r_5.2 else j109_34 o0 x1 x2 r_1.1 r_5.2)))
theorem fn109_call {xs : List Int32} {d : Nat} (hd : 4 ≤ d) {o0 : Option Nat} {x1 : Int32} {x2 : Int32} {h : xH} {r : (Int32 × xH)} (hf : fn109 o0 x1 x2 h = some r) : xCall (xTa xs) d 109 [xrv o0, .int x1, .int x2] h (some (.int r.1), r.2) := by
  obtain ⟨d, rfl⟩ : ∃ d2, d = d2 + 1 := ⟨d - 1, by omega⟩
  replace hd : 3 ≤ d := by omega
  refine call_of2 (fl := [xrv o0, .int x1, .int x2]) (Ls := [xrv o0, .int x1, .int x2, .float 0]) m109 (by simp [xfl, xrv_cat, xc_i, xc_j, xc_a, xc_f]) (Nat.le_of_ble_eq_true rfl) rfl ?_
  unfold fn109 at hf
  refine sh_aload (i' := 0) (n := 1) i109_0 (Or.inr ⟨rfl, by decide⟩) rfl ?_
  refine ev_do i109_1 rfl ?_
  refine ev_do i109_3 rfl ?_
  refine ev_do i109_4 rfl ?_
  obtain ⟨_, eu_9, hf⟩ := x_bind hf
  obtain ⟨r_1, er_1, hf⟩ := x_bind hf
  refine sh_inv (as := [.int x2, .int x1, .int 46]) (z := (some (.int r_1.1), r_1.2)) i109_5 v109_61 (Or.inl ⟨by decide, rfl⟩) m105 rfl (Nat.le_of_ble_eq_true rfl) eu_9 (fn105_call (by omega) er_1) ?_
  refine sh_istore (i' := 3) (n := 1) i109_8 (Or.inr ⟨rfl, by decide⟩) (xokst_of (Nat.le_of_ble_eq_true rfl) rfl) ?_
  refine sh_aload (i' := 0) (n := 1) i109_9 (Or.inr ⟨rfl, by decide⟩) rfl ?_
  refine ev_do i109_10 rfl ?_
  refine ev_do i109_11 rfl ?_
  obtain ⟨_, eu_8, hf⟩ := x_bind hf
  obtain ⟨r_2, er_2, hf⟩ := x_bind hf
  refine sh_inv (as := [.int r_1.1, .int x1]) (z := (some (.int r_2.1), r_2.2)) i109_12 v109_53 (Or.inl ⟨by decide, rfl⟩) m107 rfl (Nat.le_of_ble_eq_true rfl) eu_8 (fn107_call (by omega) er_2) ?_
  refine ev_if (t := 38) i109_15 rfl (fun c_3 => ?_) (fun c_3 => ?_)
  · replace hf := x_pos (show r_2.1 = 0 from c_3) hf
    exact j109_38_ok hd hf
  · replace hf := x_neg (show ¬ r_2.1 = 0 from c_3) hf
    refine ev_do i109_18 rfl ?_
    refine ev_do i109_19 rfl ?_
    refine ev_icmp (t := 34) i109_20 rfl (fun c_4 => ?_) (fun c_4 => ?_)
    · replace hf := x_pos (show r_1.1 = x2 from c_4) hf
      exact j109_34_ok hd hf
    · replace hf := x_neg (show ¬ r_1.1 = x2 from c_4) hf
      refine sh_aload (i' := 0) (n := 1) i109_23 (Or.inr ⟨rfl, by decide⟩) rfl ?_
      refine ev_do i109_24 rfl ?_
      refine ev_do i109_25 rfl ?_
      refine ev_do i109_26 rfl ?_
      refine ev_do i109_27 rfl ?_
      obtain ⟨_, eu_7, hf⟩ := x_bind hf
      obtain ⟨r_5, er_5, hf⟩ := x_bind hf
      refine sh_inv (as := [.int x2, .int (r_1.1 + 1)]) (z := (some (.int r_5.1), r_5.2)) i109_28 v109_53 (Or.inl ⟨by decide, rfl⟩) m107 rfl (Nat.le_of_ble_eq_true rfl) eu_7 (fn107_call (by omega) er_5) ?_
      refine ev_if (t := 38) i109_31 rfl (fun c_6 => ?_) (fun c_6 => ?_)
      · replace hf := x_pos (show r_5.1 = 0 from c_6) hf
        exact j109_38_ok hd hf
      · replace hf := x_neg (show ¬ r_5.1 = 0 from c_6) hf
        exact j109_34_ok hd hf
end
section
def fn79 (o0 : Option Nat) (x1 : Int32) (x2 : Int32) (h : xH) : Option (Option Nat × xH) := none
theorem fn79_call {xs : List Int32} {d : Nat} (hd : 5 ≤ d) {o0 : Option Nat} {x1 : Int32} {x2 : Int32} {h : xH} {r : (Option Nat × xH)} (hf : fn79 o0 x1 x2 h = some r) : xCall (xTa xs) d 79 [xrv o0, .int x1, .int x2] h (some (xrv r.1), r.2) := by
  obtain ⟨d, rfl⟩ : ∃ d2, d = d2 + 1 := ⟨d - 1, by omega⟩
  replace hd : 4 ≤ d := by omega
  refine call_of2 (fl := [xrv o0, .int x1, .int x2]) (Ls := [xrv o0, .int x1, .int x2, .float 0, .float 0, .float 0, .float 0, .float 0, .float 0]) m79 (by simp [xfl, xrv_cat, xc_i, xc_j, xc_a, xc_f]) (Nat.le_of_ble_eq_true rfl) rfl ?_
  unfold fn79 at hf
  refine ev_do i79_0 rfl ?_
  cases hf
end
section
def j74_173  (o0 : Option Nat) (x1 : Int32) (x2 : Int32) (x3 : Int32) (x4 : Int32) (x5 : Int32) (h : xH) : Option xH := some h
theorem j74_173_ok {xs : List Int32} {d : Nat} (hd : 5 ≤ d) {u6 : Value} {u7 : Value} {o0 : Option Nat} {x1 : Int32} {x2 : Int32} {x3 : Int32} {x4 : Int32} {x5 : Int32} {h : xH} {r : xH} (hu6 : u6.category = 1) (hu7 : u7.category = 1) (hf : j74_173 o0 x1 x2 x3 x4 x5 h = some r) : xEv (xTa xs) d 74 (173, [xrv o0, .int x1, .int x2, .int x3, .int x4, .int x5, u6, u7], [], h) (none, r) := by
  unfold j74_173 at hf
  obtain rfl := Option.some.inj hf
  exact sh_vret i74_173 m74 rfl
def fn74 (o0 : Option Nat) (x1 : Int32) (x2 : Int32) (h : xH) : Option xH := (xgR h o0 7 2).bind fun a_1 => (xcv h a_1 9).bind fun _ => (fn106 a_1 x1 x2 h).bind fun r_2 => (if (600 : Int32) ≤ (0 : Int32) then j74_173 o0 x1 x2 r_2.1 0 0 r_2.2 else (if x2 ≤ r_2.1 then j74_173 o0 x1 x2 r_2.1 0 0 r_2.2 else (xgR r_2.2 o0 7 2).bind fun a_5 => none))
theorem fn74_call {xs : List Int32} {d : Nat} (hd : 6 ≤ d) {o0 : Option Nat} {x1 : Int32} {x2 : Int32} {h : xH} {r : xH} (hf : fn74 o0 x1 x2 h = some r) : xCall (xTa xs) d 74 [xrv o0, .int x1, .int x2] h (none, r) := by
  obtain ⟨d, rfl⟩ : ∃ d2, d = d2 + 1 := ⟨d - 1, by omega⟩
  replace hd : 5 ≤ d := by omega
  refine call_of2 (fl := [xrv o0, .int x1, .int x2]) (Ls := [xrv o0, .int x1, .int x2, .float 0, .float 0, .float 0, .float 0, .float 0]) m74 (by simp [xfl, xrv_cat, xc_i, xc_j, xc_a, xc_f]) (Nat.le_of_ble_eq_true rfl) rfl ?_
  unfold fn74 at hf
  refine sh_aload (i' := 0) (n := 1) i74_0 (Or.inr ⟨rfl, by decide⟩) rfl ?_
  obtain ⟨a_1, ea_1, hf⟩ := x_bind hf
  refine sh_getR i74_1 f74_29 ea_1 ?_
  refine ev_do i74_4 rfl ?_
  refine ev_do i74_5 rfl ?_
  obtain ⟨_, eu_6, hf⟩ := x_bind hf
  obtain ⟨r_2, er_2, hf⟩ := x_bind hf
  refine sh_inv (as := [.int x2, .int x1]) (z := (some (.int r_2.1), r_2.2)) i74_6 v74_55 (Or.inl ⟨by decide, rfl⟩) m106 rfl (Nat.le_of_ble_eq_true rfl) eu_6 (fn106_call (by omega) er_2) ?_
  refine sh_istore (i' := 3) (n := 1) i74_9 (Or.inr ⟨rfl, by decide⟩) (xokst_of (Nat.le_of_ble_eq_true rfl) rfl) ?_
  refine ev_do i74_10 rfl ?_
  refine sh_istore (i' := 4) (n := 2) i74_11 (Or.inl rfl) (xokst_of (Nat.le_of_ble_eq_true rfl) rfl) ?_
  refine ev_do i74_13 rfl ?_
  refine sh_istore (i' := 5) (n := 2) i74_14 (Or.inl rfl) (xokst_of (Nat.le_of_ble_eq_true rfl) rfl) ?_
  refine ev_do i74_16 rfl ?_
  refine ev_do i74_18 rfl ?_
  refine ev_icmp (t := 173) i74_21 rfl (fun c_3 => ?_) (fun c_3 => ?_)
  · replace hf := x_pos (show (600 : Int32) ≤ (0 : Int32) from c_3) hf
    exact j74_173_ok hd rfl rfl hf
  · replace hf := x_neg (show ¬ (600 : Int32) ≤ (0 : Int32) from c_3) hf
    refine ev_do i74_24 rfl ?_
    refine ev_do i74_25 rfl ?_
    refine ev_icmp (t := 173) i74_26 rfl (fun c_4 => ?_) (fun c_4 => ?_)
    · replace hf := x_pos (show x2 ≤ r_2.1 from c_4) hf
      exact j74_173_ok hd rfl rfl hf
    · replace hf := x_neg (show ¬ x2 ≤ r_2.1 from c_4) hf
      refine sh_aload (i' := 0) (n := 1) i74_29 (Or.inr ⟨rfl, by decide⟩) rfl ?_
      obtain ⟨a_5, ea_5, hf⟩ := x_bind hf
      refine sh_getR i74_30 f74_29 ea_5 ?_
      refine ev_do i74_33 rfl ?_
      cases hf
end
section
def j67_129  (o0 : Option Nat) (x1 : Int32) (x2 : Int32) (x3 : Int32) (x4 : Int32) (x5 : Int32) (h : xH) : Option xH := some h
theorem j67_129_ok {xs : List Int32} {d : Nat} (hd : 6 ≤ d) {o0 : Option Nat} {x1 : Int32} {x2 : Int32} {x3 : Int32} {x4 : Int32} {x5 : Int32} {h : xH} {r : xH} (hf : j67_129 o0 x1 x2 x3 x4 x5 h = some r) : xEv (xTa xs) d 67 (129, [xrv o0, .int x1, .int x2, .int x3, .int x4, .int x5], [], h) (none, r) := by
  unfold j67_129 at hf
  obtain rfl := Option.some.inj hf
  exact sh_vret i67_129 m67 rfl
def j67_89  (o0 : Option Nat) (x1 : Int32) (x2 : Int32) (x3 : Int32) (x4 : Int32) (x5 : Int32) (h : xH) : Option xH := (xcv h o0 7).bind fun _ => (fn66 o0 1 x1 h).bind fun h_1 => (xgR h_1 o0 7 3).bind fun a_2 => (if a_2 = none then j67_129 o0 x1 x2 x3 x4 x5 h_1 else (xgR h_1 o0 7 3).bind fun a_4 => (xpF h_1 a_4 0 3 .int (.int (x3 / 2))).bind fun h_5 => (xgR h_5 o0 7 3).bind fun a_6 => (xpF h_5 a_6 0 8 .boolean (.int x4)).bind fun h_7 => (xcv h_7 o0 7).bind fun _ => (fn74 o0 (x1 + 1) x2 h_7).bind fun h_8 => j67_129 o0 x1 x2 x3 x4 x5 h_8)
theorem j67_89_ok {xs : List Int32} {d : Nat} (hd : 6 ≤ d) {o0 : Option Nat} {x1 : Int32} {x2 : Int32} {x3 : Int32} {x4 : Int32} {x5 : Int32} {h : xH} {r : xH} (hf : j67_89 o0 x1 x2 x3 x4 x5 h = some r) : xEv (xTa xs) d 67 (89, [xrv o0, .int x1, .int x2, .int x3, .int x4, .int x5], [], h) (none, r) := by
  unfold j67_89 at hf
  refine sh_aload (i' := 0) (n := 1) i67_89 (Or.inr ⟨rfl, by decide⟩) rfl ?_
  refine ev_do i67_90 rfl ?_
  refine ev_do i67_91 rfl ?_
  obtain ⟨_, eu_10, hf⟩ := x_bind hf
  obtain ⟨h_1, eh_1, hf⟩ := x_bind hf
  refine sh_inv (as := [.int x1, .int 1]) (z := (none, h_1)) i67_92 v67_112 (Or.inl ⟨by decide, rfl⟩) m66 rfl (Nat.le_of_ble_eq_true rfl) eu_10 (fn66_call (by omega) eh_1) ?_
  refine sh_aload (i' := 0) (n := 1) i67_95 (Or.inr ⟨rfl, by decide⟩) rfl ?_
  obtain ⟨a_2, ea_2, hf⟩ := x_bind hf
  refine sh_getR i67_96 f67_30 ea_2 ?_
  refine sh_null (t := 129) i67_99 rfl (fun c_3 => ?_) (fun c_3 => ?_)
  · replace hf := x_pos c_3 hf
    exact j67_129_ok hd hf
  · replace hf := x_neg c_3 hf
    refine sh_aload (i' := 0) (n := 1) i67_102 (Or.inr ⟨rfl, by decide⟩) rfl ?_
    obtain ⟨a_4, ea_4, hf⟩ := x_bind hf
    refine sh_getR i67_103 f67_30 ea_4 ?_
    refine ev_do i67_106 rfl ?_
    refine ev_do i67_107 rfl ?_
    refine sh_div i67_108 (by decide) ?_
    obtain ⟨h_5, eh_5, hf⟩ := x_bind hf
    refine sh_put i67_109 f67_100 (by decide) rfl eh_5 ?_
    refine sh_aload (i' := 0) (n := 1) i67_112 (Or.inr ⟨rfl, by decide⟩) rfl ?_
    obtain ⟨a_6, ea_6, hf⟩ := x_bind hf
    refine sh_getR i67_113 f67_30 ea_6 ?_
    refine ev_do i67_116 rfl ?_
    obtain ⟨h_7, eh_7, hf⟩ := x_bind hf
    refine sh_put i67_118 f67_115 (by decide) rfl eh_7 ?_
    refine sh_aload (i' := 0) (n := 1) i67_121 (Or.inr ⟨rfl, by decide⟩) rfl ?_
    refine ev_do i67_122 rfl ?_
    refine ev_do i67_123 rfl ?_
    refine ev_do i67_124 rfl ?_
    refine ev_do i67_125 rfl ?_
    obtain ⟨_, eu_9, hf⟩ := x_bind hf
    obtain ⟨h_8, eh_8, hf⟩ := x_bind hf
    refine sh_inv (as := [.int x2, .int (x1 + 1)]) (z := (none, h_8)) i67_126 v67_118 (Or.inl ⟨by decide, rfl⟩) m74 rfl (Nat.le_of_ble_eq_true rfl) eu_9 (fn74_call (by omega) eh_8) ?_
    exact j67_129_ok hd hf
def j67_83  (o0 : Option Nat) (x1 : Int32) (x2 : Int32) (x3 : Int32) (x4 : Int32) (x5 : Int32) (h : xH) : Option xH := (xcv h o0 7).bind fun _ => (fn62 o0 x1 3 h).bind fun h_1 => j67_89 o0 x1 x2 x3 x4 x5 h_1
theorem j67_83_ok {xs : List Int32} {d : Nat} (hd : 6 ≤ d) {o0 : Option Nat} {x1 : Int32} {x2 : Int32} {x3 : Int32} {x4 : Int32} {x5 : Int32} {h : xH} {r : xH} (hf : j67_83 o0 x1 x2 x3 x4 x5 h = some r) : xEv (xTa xs) d 67 (83, [xrv o0, .int x1, .int x2, .int x3, .int x4, .int x5], [], h) (none, r) := by
  unfold j67_83 at hf
  refine sh_aload (i' := 0) (n := 1) i67_83 (Or.inr ⟨rfl, by decide⟩) rfl ?_
  refine ev_do i67_84 rfl ?_
  refine ev_do i67_85 rfl ?_
  obtain ⟨_, eu_2, hf⟩ := x_bind hf
  obtain ⟨h_1, eh_1, hf⟩ := x_bind hf
  refine sh_inv (as := [.int 3, .int x1]) (z := (none, h_1)) i67_86 v67_81 (Or.inl ⟨by decide, rfl⟩) m62 rfl (Nat.le_of_ble_eq_true rfl) eu_2 (fn62_call (by omega) eh_1) ?_
  exact j67_89_ok hd hf
def j67_69  (o0 : Option Nat) (x1 : Int32) (x2 : Int32) (x3 : Int32) (x4 : Int32) (x5 : Int32) (h : xH) : Option xH := (if (x3 &&& 1) = 0 then (if (x3 / 2) ≤ x5 then j67_89 o0 x1 x2 x3 x4 x5 h else j67_83 o0 x1 x2 x3 x4 x5 h) else j67_83 o0 x1 x2 x3 x4 x5 h)
theorem j67_69_ok {xs : List Int32} {d : Nat} (hd : 6 ≤ d) {o0 : Option Nat} {x1 : Int32} {x2 : Int32} {x3 : Int32} {x4 : Int32} {x5 : Int32} {h : xH} {r : xH} (hf : j67_69 o0 x1 x2 x3 x4 x5 h = some r) : xEv (xTa xs) d 67 (69, [xrv o0, .int x1, .int x2, .int x3, .int x4, .int x5], [], h) (none, r) := by
  unfold j67_69 at hf
  refine ev_do i67_69 rfl ?_
  refine ev_do i67_70 rfl ?_
  refine ev_do i67_71 rfl ?_
  refine ev_if (t := 83) i67_72 rfl (fun c_1 => ?_) (fun c_1 => ?_)
  · replace hf := x_neg (show ¬ (x3 &&& 1) = 0 from c_1) hf
    exact j67_83_ok hd hf
  · replace hf := x_pos (show (x3 &&& 1) = 0 from Decidable.byContradiction (fun h9 => c_1 h9)) hf
    refine ev_do i67_75 rfl ?_
    refine ev_do i67_76 rfl ?_
    refine sh_div i67_77 (by decide) ?_
    refine ev_do i67_78 rfl ?_
    refine ev_icmp (t := 89) i67_80 rfl (fun c_2 => ?_) (fun c_2 => ?_)
    · replace hf := x_pos (show (x3 / 2) ≤ x5 from c_2) hf
      exact j67_89_ok hd hf
    · replace hf := x_neg (show ¬ (x3 / 2) ≤ x5 from c_2) hf
      exact j67_83_ok hd hf
def j67_54  (o0 : Option Nat) (x1 : Int32) (x2 : Int32) (x3 : Int32) (x4 : Int32) (s0 : Int32) (h : xH) : Option xH := (xcv h o0 7).bind fun _ => (fn65 o0 h).bind fun r_1 => (if r_1.1 = 0 then j67_69 o0 x1 x2 x3 x4 s0 r_1.2 else (xcv r_1.2 o0 7).bind fun _ => (fn62 o0 x1 2 r_1.2).bind fun h_3 => j67_69 o0 x1 x2 x3 x4 s0 h_3)
theorem j67_54_ok {xs : List Int32} {d : Nat} (hd : 6 ≤ d) {u5 : Value} {o0 : Option Nat} {x1 : Int32} {x2 : Int32} {x3 : Int32} {x4 : Int32} {s0 : Int32} {h : xH} {r : xH} (hu5 : u5.category = 1) (hf : j67_54 o0 x1 x2 x3 x4 s0 h = some r) : xEv (xTa xs) d 67 (54, [xrv o0, .int x1, .int x2, .int x3, .int x4, u5], [.int s0], h) (none, r) := by
  unfold j67_54 at hf
  refine sh_istore (i' := 5) (n := 2) i67_54 (Or.inl rfl) (xokst_of (Nat.le_of_ble_eq_true rfl) rfl) ?_
  refine sh_aload (i' := 0) (n := 1) i67_56 (Or.inr ⟨rfl, by decide⟩) rfl ?_
  obtain ⟨_, eu_5, hf⟩ := x_bind hf
  obtain ⟨r_1, er_1, hf⟩ := x_bind hf
  refine sh_inv (as := []) (z := (some (.int r_1.1), r_1.2)) i67_57 v67_108 (Or.inl ⟨by decide, rfl⟩) m65 rfl (Nat.le_of_ble_eq_true rfl) eu_5 (fn65_call (by omega) er_1) ?_
  refine ev_if (t := 69) i67_60 rfl (fun c_2 => ?_) (fun c_2 => ?_)
  · replace hf := x_pos (show r_1.1 = 0 from c_2) hf
    exact j67_69_ok hd hf
  · replace hf := x_neg (show ¬ r_1.1 = 0 from c_2) hf
    refine sh_aload (i' := 0) (n := 1) i67_63 (Or.inr ⟨rfl, by decide⟩) rfl ?_
    refine ev_do i67_64 rfl ?_
    refine ev_do i67_65 rfl ?_
    obtain ⟨_, eu_4, hf⟩ := x_bind hf
    obtain ⟨h_3, eh_3, hf⟩ := x_bind hf
    refine sh_inv (as := [.int 2, .int x1]) (z := (none, h_3)) i67_66 v67_81 (Or.inl ⟨by decide, rfl⟩) m62 rfl (Nat.le_of_ble_eq_true rfl) eu_4 (fn62_call (by omega) eh_3) ?_
    exact j67_69_ok hd hf
def j67_30  (o0 : Option Nat) (x1 : Int32) (x2 : Int32) (x3 : Int32) (s0 : Int32) (h : xH) : Option xH := (if s0 = 0 then j67_54 o0 x1 x2 x3 s0 0 h else (xgR h o0 7 3).bind fun a_2 => (xgI h a_2 0 3).bind fun v_3 => j67_54 o0 x1 x2 x3 s0 (xmin 2 (v_3 + 1)) h)
theorem j67_30_ok {xs : List Int32} {d : Nat} (hd : 6 ≤ d) {u4 : Value} {u5 : Value} {o0 : Option Nat} {x1 : Int32} {x2 : Int32} {x3 : Int32} {s0 : Int32} {h : xH} {r : xH} (hu4 : u4.category = 1) (hu5 : u5.category = 1) (hf : j67_30 o0 x1 x2 x3 s0 h = some r) : xEv (xTa xs) d 67 (30, [xrv o0, .int x1, .int x2, .int x3, u4, u5], [.int s0], h) (none, r) := by
  unfold j67_30 at hf
  refine sh_istore (i' := 4) (n := 2) i67_30 (Or.inl rfl) (xokst_of (Nat.le_of_ble_eq_true rfl) rfl) ?_
  refine ev_do i67_32 rfl ?_
  refine ev_if (t := 53) i67_34 rfl (fun c_1 => ?_) (fun c_1 => ?_)
  · replace hf := x_pos (show s0 = 0 from c_1) hf
    refine ev_do i67_53 rfl ?_
    exact j67_54_ok hd hu5 hf
  · replace hf := x_neg (show ¬ s0 = 0 from c_1) hf
    refine ev_do i67_37 rfl ?_
    refine sh_aload (i' := 0) (n := 1) i67_38 (Or.inr ⟨rfl, by decide⟩) rfl ?_
    obtain ⟨a_2, ea_2, hf⟩ := x_bind hf
    refine sh_getR i67_39 f67_30 ea_2 ?_
    obtain ⟨v_3, ev_3, hf⟩ := x_bind hf
    refine sh_getI i67_42 f67_100 ev_3 ?_
    refine ev_do i67_45 rfl ?_
    refine ev_do i67_46 rfl ?_
    refine sh_min i67_47 v67_103 (Nat.le_of_ble_eq_true rfl) ?_
    refine sh_goto (t := 54) i67_50 rfl ?_
    exact j67_54_ok hd hu5 hf
def j67_29  (o0 : Option Nat) (x1 : Int32) (x2 : Int32) (x3 : Int32) (h : xH) : Option xH := j67_30 o0 x1 x2 x3 0 h
theorem j67_29_ok {xs : List Int32} {d : Nat} (hd : 6 ≤ d) {u4 : Value} {u5 : Value} {o0 : Option Nat} {x1 : Int32} {x2 : Int32} {x3 : Int32} {h : xH} {r : xH} (hu4 : u4.category = 1) (hu5 : u5.category = 1) (hf : j67_29 o0 x1 x2 x3 h = some r) : xEv (xTa xs) d 67 (29, [xrv o0, .int x1, .int x2, .int x3, u4, u5], [], h) (none, r) := by
  unfold j67_29 at hf
  refine ev_do i67_29 rfl ?_
  exact j67_30_ok hd hu4 hu5 hf
def fn67 (o0 : Option Nat) (x1 : Int32) (x2 : Int32) (x3 : Int32) (h : xH) : Option xH := (xgR h o0 7 3).bind fun a_1 => (if a_1 = none then j67_29 o0 x1 x2 x3 h else (xgR h o0 7 3).bind fun a_3 => (xgI h a_3 0 1).bind fun v_4 => (if v_4 = 1 then (xgI h o0 7 4).bind fun v_6 => (if v_6 = 0 then j67_30 o0 x1 x2 x3 1 h else j67_29 o0 x1 x2 x3 h) else j67_29 o0 x1 x2 x3 h))
theorem fn67_call {xs : List Int32} {d : Nat} (hd : 7 ≤ d) {o0 : Option Nat} {x1 : Int32} {x2 : Int32} {x3 : Int32} {h : xH} {r : xH} (hf : fn67 o0 x1 x2 x3 h = some r) : xCall (xTa xs) d 67 [xrv o0, .int x1, .int x2, .int x3] h (none, r) := by
  obtain ⟨d, rfl⟩ : ∃ d2, d = d2 + 1 := ⟨d - 1, by omega⟩
  replace hd : 6 ≤ d := by omega
  refine call_of2 (fl := [xrv o0, .int x1, .int x2, .int x3]) (Ls := [xrv o0, .int x1, .int x2, .int x3, .float 0, .float 0]) m67 (by simp [xfl, xrv_cat, xc_i, xc_j, xc_a, xc_f]) (Nat.le_of_ble_eq_true rfl) rfl ?_
  unfold fn67 at hf
  refine sh_aload (i' := 0) (n := 1) i67_0 (Or.inr ⟨rfl, by decide⟩) rfl ?_
  obtain ⟨a_1, ea_1, hf⟩ := x_bind hf
  refine sh_getR i67_1 f67_30 ea_1 ?_
  refine sh_null (t := 29) i67_4 rfl (fun c_2 => ?_) (fun c_2 => ?_)
  · replace hf := x_pos c_2 hf
    exact j67_29_ok hd rfl rfl hf
  · replace hf := x_neg c_2 hf
    refine sh_aload (i' := 0) (n := 1) i67_7 (Or.inr ⟨rfl, by decide⟩) rfl ?_
    obtain ⟨a_3, ea_3, hf⟩ := x_bind hf
    refine sh_getR i67_8 f67_30 ea_3 ?_
    obtain ⟨v_4, ev_4, hf⟩ := x_bind hf
    refine sh_getI i67_11 f67_84 ev_4 ?_
    refine ev_do i67_14 rfl ?_
    refine ev_icmp (t := 29) i67_15 rfl (fun c_5 => ?_) (fun c_5 => ?_)
    · replace hf := x_neg (show ¬ v_4 = 1 from c_5) hf
      exact j67_29_ok hd rfl rfl hf
    · replace hf := x_pos (show v_4 = 1 from Decidable.byContradiction (fun h9 => c_5 h9)) hf
      refine sh_aload (i' := 0) (n := 1) i67_18 (Or.inr ⟨rfl, by decide⟩) rfl ?_
      obtain ⟨v_6, ev_6, hf⟩ := x_bind hf
      refine sh_getI i67_19 f67_34 ev_6 ?_
      refine ev_if (t := 29) i67_22 rfl (fun c_7 => ?_) (fun c_7 => ?_)
      · replace hf := x_neg (show ¬ v_6 = 0 from c_7) hf
        exact j67_29_ok hd rfl rfl hf
      · replace hf := x_pos (show v_6 = 0 from Decidable.byContradiction (fun h9 => c_7 h9)) hf
        refine ev_do i67_25 rfl ?_
        refine sh_goto (t := 30) i67_26 rfl ?_
        exact j67_30_ok hd rfl rfl hf
end
section
def fn69 (o0 : Option Nat) (x1 : Int32) (x2 : Int32) (h : xH) : Option (Int32 × xH) := (xgR h o0 7 2).bind fun a_1 => none
theorem fn69_call {xs : List Int32} {d : Nat} (hd : 4 ≤ d) {o0 : Option Nat} {x1 : Int32} {x2 : Int32} {h : xH} {r : (Int32 × xH)} (hf : fn69 o0 x1 x2 h = some r) : xCall (xTa xs) d 69 [xrv o0, .int x1, .int x2] h (some (.int r.1), r.2) := by
  obtain ⟨d, rfl⟩ : ∃ d2, d = d2 + 1 := ⟨d - 1, by omega⟩
  replace hd : 3 ≤ d := by omega
  refine call_of2 (fl := [xrv o0, .int x1, .int x2]) (Ls := [xrv o0, .int x1, .int x2, .float 0, .float 0]) m69 (by simp [xfl, xrv_cat, xc_i, xc_j, xc_a, xc_f]) (Nat.le_of_ble_eq_true rfl) rfl ?_
  unfold fn69 at hf
  refine sh_aload (i' := 0) (n := 1) i69_0 (Or.inr ⟨rfl, by decide⟩) rfl ?_
  obtain ⟨a_1, ea_1, hf⟩ := x_bind hf
  refine sh_getR i69_1 f69_29 ea_1 ?_
  refine ev_do i69_4 rfl ?_
  cases hf
end
section
def j68_128  (o0 : Option Nat) (x1 : Int32) (x2 : Int32) (x3 : Int32) (x4 : Int32) (h : xH) : Option xH := some h
theorem j68_128_ok {xs : List Int32} {d : Nat} (hd : 6 ≤ d) {o0 : Option Nat} {x1 : Int32} {x2 : Int32} {x3 : Int32} {x4 : Int32} {h : xH} {r : xH} (hf : j68_128 o0 x1 x2 x3 x4 h = some r) : xEv (xTa xs) d 68 (128, [xrv o0, .int x1, .int x2, .int x3, .int x4], [], h) (none, r) := by
  unfold j68_128 at hf
  obtain rfl := Option.some.inj hf
  exact sh_vret i68_128 m68 rfl
def j68_117  (o0 : Option Nat) (x1 : Int32) (x2 : Int32) (x3 : Int32) (x4 : Int32) (h : xH) : Option xH := (if x4 = 0 then (xcv h o0 7).bind fun _ => (fn74 o0 x1 x2 h).bind fun h_2 => j68_128 o0 x1 x2 x3 x4 h_2 else j68_128 o0 x1 x2 x3 x4 h)
theorem j68_117_ok {xs : List Int32} {d : Nat} (hd : 6 ≤ d) {o0 : Option Nat} {x1 : Int32} {x2 : Int32} {x3 : Int32} {x4 : Int32} {h : xH} {r : xH} (hf : j68_117 o0 x1 x2 x3 x4 h = some r) : xEv (xTa xs) d 68 (117, [xrv o0, .int x1, .int x2, .int x3, .int x4], [], h) (none, r) := by
  unfold j68_117 at hf
  refine ev_do i68_117 rfl ?_
  refine ev_if (t := 128) i68_119 rfl (fun c_1 => ?_) (fun c_1 => ?_)
  · replace hf := x_neg (show ¬ x4 = 0 from c_1) hf
    exact j68_128_ok hd hf
  · replace hf := x_pos (show x4 = 0 from Decidable.byContradiction (fun h9 => c_1 h9)) hf
    refine sh_aload (i' := 0) (n := 1) i68_122 (Or.inr ⟨rfl, by decide⟩) rfl ?_
    refine ev_do i68_123 rfl ?_
    refine ev_do i68_124 rfl ?_
    obtain ⟨_, eu_3, hf⟩ := x_bind hf
    obtain ⟨h_2, eh_2, hf⟩ := x_bind hf
    refine sh_inv (as := [.int x2, .int x1]) (z := (none, h_2)) i68_125 v68_118 (Or.inl ⟨by decide, rfl⟩) m74 rfl (Nat.le_of_ble_eq_true rfl) eu_3 (fn74_call (by omega) eh_2) ?_
    exact j68_128_ok hd hf
def j68_113  (o0 : Option Nat) (x1 : Int32) (x2 : Int32) (x3 : Int32) (x4 : Int32) (s0 : Option Nat) (s1 : Int32) (h : xH) : Option xH := (xcv h s0 7).bind fun _ => (fn66 s0 s1 x1 h).bind fun h_1 => j68_117 o0 x1 x2 x3 x4 h_1
theorem j68_113_ok {xs : List Int32} {d : Nat} (hd : 6 ≤ d) {o0 : Option Nat} {x1 : Int32} {x2 : Int32} {x3 : Int32} {x4 : Int32} {s0 : Option Nat} {s1 : Int32} {h : xH} {r : xH} (hf : j68_113 o0 x1 x2 x3 x4 s0 s1 h = some r) : xEv (xTa xs) d 68 (113, [xrv o0, .int x1, .int x2, .int x3, .int x4], [.int s1, xrv s0], h) (none, r) := by
  unfold j68_113 at hf
  refine ev_do i68_113 rfl ?_
  obtain ⟨_, eu_2, hf⟩ := x_bind hf
  obtain ⟨h_1, eh_1, hf⟩ := x_bind hf
  refine sh_inv (as := [.int x1, .int s1]) (z := (none, h_1)) i68_114 v68_112 (Or.inl ⟨by decide, rfl⟩) m66 rfl (Nat.le_of_ble_eq_true rfl) eu_2 (fn66_call (by omega) eh_1) ?_
  exact j68_117_ok hd hf
def j68_94  (o0 : Option Nat) (x1 : Int32) (x2 : Int32) (x3 : Int32) (x4 : Int32) (h : xH) : Option xH := (xgI h o0 7 4).bind fun v_1 => (if v_1 = 0 then j68_117 o0 x1 x2 x3 x4 h else (if x4 = 0 then j68_113 o0 x1 x2 x3 x4 o0 0 h else j68_113 o0 x1 x2 x3 x4 o0 7 h))
theorem j68_94_ok {xs : List Int32} {d : Nat} (hd : 6 ≤ d) {o0 : Option Nat} {x1 : Int32} {x2 : Int32} {x3 : Int32} {x4 : Int32} {h : xH} {r : xH} (hf : j68_94 o0 x1 x2 x3 x4 h = some r) : xEv (xTa xs) d 68 (94, [xrv o0, .int x1, .int x2, .int x3, .int x4], [], h) (none, r) := by
  unfold j68_94 at hf
  refine sh_aload (i' := 0) (n := 1) i68_94 (Or.inr ⟨rfl, by decide⟩) rfl ?_
  obtain ⟨v_1, ev_1, hf⟩ := x_bind hf
  refine sh_getI i68_95 f68_34 ev_1 ?_
  refine ev_if (t := 117) i68_98 rfl (fun c_2 => ?_) (fun c_2 => ?_)
  · replace hf := x_pos (show v_1 = 0 from c_2) hf
    exact j68_117_ok hd hf
  · replace hf := x_neg (show ¬ v_1 = 0 from c_2) hf
    refine sh_aload (i' := 0) (n := 1) i68_101 (Or.inr ⟨rfl, by decide⟩) rfl ?_
    refine ev_do i68_102 rfl ?_
    refine ev_if (t := 112) i68_104 rfl (fun c_3 => ?_) (fun c_3 => ?_)
    · replace hf := x_pos (show x4 = 0 from c_3) hf
      refine ev_do i68_112 rfl ?_
      exact j68_113_ok hd hf
    · replace hf := x_neg (show ¬ x4 = 0 from c_3) hf
      refine ev_do i68_107 rfl ?_
      refine sh_goto (t := 113) i68_109 rfl ?_
      exact j68_113_ok hd hf
def j68_69  (o0 : Option Nat) (x1 : Int32) (x2 : Int32) (x3 : Int32) (s0 : Int32) (h : xH) : Option xH := (if s0 = 0 then j68_94 o0 x1 x2 x3 s0 h else (xgR h o0 7 1).bind fun a_2 => (xcv h a_2 1).bind fun _ => (fn9 a_2 7 h).bind fun r_3 => (if r_3.1 = none then j68_94 o0 x1 x2 x3 s0 r_3.2 else (xcv r_3.2 o0 7).bind fun _ => (fn62 o0 x1 5 r_3.2).bind fun h_5 => j68_94 o0 x1 x2 x3 s0 h_5))
theorem j68_69_ok {xs : List Int32} {d : Nat} (hd : 6 ≤ d) {u4 : Value} {o0 : Option Nat} {x1 : Int32} {x2 : Int32} {x3 : Int32} {s0 : Int32} {h : xH} {r : xH} (hu4 : u4.category = 1) (hf : j68_69 o0 x1 x2 x3 s0 h = some r) : xEv (xTa xs) d 68 (69, [xrv o0, .int x1, .int x2, .int x3, u4], [.int s0], h) (none, r) := by
  unfold j68_69 at hf
  refine sh_istore (i' := 4) (n := 2) i68_69 (Or.inl rfl) (xokst_of (Nat.le_of_ble_eq_true rfl) rfl) ?_
  refine ev_do i68_71 rfl ?_
  refine ev_if (t := 94) i68_73 rfl (fun c_1 => ?_) (fun c_1 => ?_)
  · replace hf := x_pos (show s0 = 0 from c_1) hf
    exact j68_94_ok hd hf
  · replace hf := x_neg (show ¬ s0 = 0 from c_1) hf
    refine sh_aload (i' := 0) (n := 1) i68_76 (Or.inr ⟨rfl, by decide⟩) rfl ?_
    obtain ⟨a_2, ea_2, hf⟩ := x_bind hf
    refine sh_getR i68_77 f68_20 ea_2 ?_
    refine ev_do i68_80 rfl ?_
    obtain ⟨_, eu_7, hf⟩ := x_bind hf
    obtain ⟨r_3, er_3, hf⟩ := x_bind hf
    refine sh_inv (as := [.int 7]) (z := (some (xrv r_3.1), r_3.2)) i68_82 v68_128 (Or.inl ⟨by decide, rfl⟩) m9 rfl (Nat.le_of_ble_eq_true rfl) eu_7 (fn9_call (by omega) er_3) ?_
    refine sh_null (t := 94) i68_85 rfl (fun c_4 => ?_) (fun c_4 => ?_)
    · replace hf := x_pos c_4 hf
      exact j68_94_ok hd hf
    · replace hf := x_neg c_4 hf
      refine sh_aload (i' := 0) (n := 1) i68_88 (Or.inr ⟨rfl, by decide⟩) rfl ?_
      refine ev_do i68_89 rfl ?_
      refine ev_do i68_90 rfl ?_
      obtain ⟨_, eu_6, hf⟩ := x_bind hf
      obtain ⟨h_5, eh_5, hf⟩ := x_bind hf
      refine sh_inv (as := [.int 5, .int x1]) (z := (none, h_5)) i68_91 v68_81 (Or.inl ⟨by decide, rfl⟩) m62 rfl (Nat.le_of_ble_eq_true rfl) eu_6 (fn62_call (by omega) eh_5) ?_
      exact j68_94_ok hd hf
def j68_68  (o0 : Option Nat) (x1 : Int32) (x2 : Int32) (x3 : Int32) (h : xH) : Option xH := j68_69 o0 x1 x2 x3 0 h
theorem j68_68_ok {xs : List Int32} {d : Nat} (hd : 6 ≤ d) {u4 : Value} {o0 : Option Nat} {x1 : Int32} {x2 : Int32} {x3 : Int32} {h : xH} {r : xH} (hu4 : u4.category = 1) (hf : j68_68 o0 x1 x2 x3 h = some r) : xEv (xTa xs) d 68 (68, [xrv o0, .int x1, .int x2, .int x3, u4], [], h) (none, r) := by
  unfold j68_68 at hf
  refine ev_do i68_68 rfl ?_
  exact j68_69_ok hd hu4 hf
def j68_36  (o0 : Option Nat) (x1 : Int32) (x2 : Int32) (s0 : Int32) (h : xH) : Option xH := (if s0 = 0 then (xgI h o0 7 4).bind fun v_2 => (if v_2 = 0 then j68_68 o0 x1 x2 s0 h else (xcv h o0 7).bind fun _ => (fn69 o0 x1 x2 h).bind fun r_4 => (if r_4.1 = 0 then j68_68 o0 x1 x2 s0 r_4.2 else j68_69 o0 x1 x2 s0 1 r_4.2)) else (xcv h o0 7).bind fun _ => (fn62 o0 x1 2 h).bind fun h_7 => some h_7)
theorem j68_36_ok {xs : List Int32} {d : Nat} (hd : 6 ≤ d) {u3 : Value} {u4 : Value} {o0 : Option Nat} {x1 : Int32} {x2 : Int32} {s0 : Int32} {h : xH} {r : xH} (hu3 : u3.category = 1) (hu4 : u4.category = 1) (hf : j68_36 o0 x1 x2 s0 h = some r) : xEv (xTa xs) d 68 (36, [xrv o0, .int x1, .int x2, u3, u4], [.int s0], h) (none, r) := by
  unfold j68_36 at hf
  refine sh_istore (i' := 3) (n := 1) i68_36 (Or.inr ⟨rfl, by decide⟩) (xokst_of (Nat.le_of_ble_eq_true rfl) rfl) ?_
  refine ev_do i68_37 rfl ?_
  refine ev_if (t := 48) i68_38 rfl (fun c_1 => ?_) (fun c_1 => ?_)
  · replace hf := x_pos (show s0 = 0 from c_1) hf
    refine sh_aload (i' := 0) (n := 1) i68_48 (Or.inr ⟨rfl, by decide⟩) rfl ?_
    obtain ⟨v_2, ev_2, hf⟩ := x_bind hf
    refine sh_getI i68_49 f68_34 ev_2 ?_
    refine ev_if (t := 68) i68_52 rfl (fun c_3 => ?_) (fun c_3 => ?_)
    · replace hf := x_pos (show v_2 = 0 from c_3) hf
      exact j68_68_ok hd hu4 hf
    · replace hf := x_neg (show ¬ v_2 = 0 from c_3) hf
      refine sh_aload (i' := 0) (n := 1) i68_55 (Or.inr ⟨rfl, by decide⟩) rfl ?_
      refine ev_do i68_56 rfl ?_
      refine ev_do i68_57 rfl ?_
      obtain ⟨_, eu_6, hf⟩ := x_bind hf
      obtain ⟨r_4, er_4, hf⟩ := x_bind hf
      refine sh_inv (as := [.int x2, .int x1]) (z := (some (.int r_4.1), r_4.2)) i68_58 v68_124 (Or.inl ⟨by decide, rfl⟩) m69 rfl (Nat.le_of_ble_eq_true rfl) eu_6 (fn69_call (by omega) er_4) ?_
      refine ev_if (t := 68) i68_61 rfl (fun c_5 => ?_) (fun c_5 => ?_)
      · replace hf := x_pos (show r_4.1 = 0 from c_5) hf
        exact j68_68_ok hd hu4 hf
      · replace hf := x_neg (show ¬ r_4.1 = 0 from c_5) hf
        refine ev_do i68_64 rfl ?_
        refine sh_goto (t := 69) i68_65 rfl ?_
        exact j68_69_ok hd hu4 hf
  · replace hf := x_neg (show ¬ s0 = 0 from c_1) hf
    refine sh_aload (i' := 0) (n := 1) i68_41 (Or.inr ⟨rfl, by decide⟩) rfl ?_
    refine ev_do i68_42 rfl ?_
    refine ev_do i68_43 rfl ?_
    obtain ⟨_, eu_8, hf⟩ := x_bind hf
    obtain ⟨h_7, eh_7, hf⟩ := x_bind hf
    refine sh_inv (as := [.int 2, .int x1]) (z := (none, h_7)) i68_44 v68_81 (Or.inl ⟨by decide, rfl⟩) m62 rfl (Nat.le_of_ble_eq_true rfl) eu_8 (fn62_call (by omega) eh_7) ?_
    obtain rfl := Option.some.inj hf
    exact sh_vret i68_47 m68 rfl
def j68_35  (o0 : Option Nat) (x1 : Int32) (x2 : Int32) (h : xH) : Option xH := j68_36 o0 x1 x2 0 h
theorem j68_35_ok {xs : List Int32} {d : Nat} (hd : 6 ≤ d) {u3 : Value} {u4 : Value} {o0 : Option Nat} {x1 : Int32} {x2 : Int32} {h : xH} {r : xH} (hu3 : u3.category = 1) (hu4 : u4.category = 1) (hf : j68_35 o0 x1 x2 h = some r) : xEv (xTa xs) d 68 (35, [xrv o0, .int x1, .int x2, u3, u4], [], h) (none, r) := by
  unfold j68_35 at hf
  refine ev_do i68_35 rfl ?_
  exact j68_36_ok hd hu3 hu4 hf
def fn68 (o0 : Option Nat) (x1 : Int32) (x2 : Int32) (h : xH) : Option xH := (xgI h o0 7 4).bind fun v_1 => (if v_1 = 0 then (xgR h o0 7 3).bind fun a_3 => (if a_3 = none then j68_35 o0 x1 x2 h else (xgR h o0 7 3).bind fun a_5 => (xcv h a_5 0).bind fun _ => (fn2 a_5 h).bind fun r_6 => (if r_6.1 = 0 then j68_35 o0 x1 x2 r_6.2 else j68_36 o0 x1 x2 1 r_6.2)) else (xcv h o0 7).bind fun _ => (fn65 o0 h).bind fun r_9 => j68_36 o0 x1 x2 r_9.1 r_9.2)
theorem fn68_call {xs : List Int32} {d : Nat} (hd : 7 ≤ d) {o0 : Option Nat} {x1 : Int32} {x2 : Int32} {h : xH} {r : xH} (hf : fn68 o0 x1 x2 h = some r) : xCall (xTa xs) d 68 [xrv o0, .int x1, .int x2] h (none, r) := by
  obtain ⟨d, rfl⟩ : ∃ d2, d = d2 + 1 := ⟨d - 1, by omega⟩
  replace hd : 6 ≤ d := by omega
  refine call_of2 (fl := [xrv o0, .int x1, .int x2]) (Ls := [xrv o0, .int x1, .int x2, .float 0, .float 0]) m68 (by simp [xfl, xrv_cat, xc_i, xc_j, xc_a, xc_f]) (Nat.le_of_ble_eq_true rfl) rfl ?_
  unfold fn68 at hf
  refine sh_aload (i' := 0) (n := 1) i68_0 (Or.inr ⟨rfl, by decide⟩) rfl ?_
  obtain ⟨v_1, ev_1, hf⟩ := x_bind hf
  refine sh_getI i68_1 f68_34 ev_1 ?_
  refine ev_if (t := 14) i68_4 rfl (fun c_2 => ?_) (fun c_2 => ?_)
  · replace hf := x_pos (show v_1 = 0 from c_2) hf
    refine sh_aload (i' := 0) (n := 1) i68_14 (Or.inr ⟨rfl, by decide⟩) rfl ?_
    obtain ⟨a_3, ea_3, hf⟩ := x_bind hf
    refine sh_getR i68_15 f68_30 ea_3 ?_
    refine sh_null (t := 35) i68_18 rfl (fun c_4 => ?_) (fun c_4 => ?_)
    · replace hf := x_pos c_4 hf
      exact j68_35_ok hd rfl rfl hf
    · replace hf := x_neg c_4 hf
      refine sh_aload (i' := 0) (n := 1) i68_21 (Or.inr ⟨rfl, by decide⟩) rfl ?_
      obtain ⟨a_5, ea_5, hf⟩ := x_bind hf
      refine sh_getR i68_22 f68_30 ea_5 ?_
      obtain ⟨_, eu_8, hf⟩ := x_bind hf
      obtain ⟨r_6, er_6, hf⟩ := x_bind hf
      refine sh_inv (as := []) (z := (some (.int r_6.1), r_6.2)) i68_25 v68_121 (Or.inl ⟨by decide, rfl⟩) m2 rfl (Nat.le_of_ble_eq_true rfl) eu_8 (fn2_call (by omega) er_6) ?_
      refine ev_if (t := 35) i68_28 rfl (fun c_7 => ?_) (fun c_7 => ?_)
      · replace hf := x_pos (show r_6.1 = 0 from c_7) hf
        exact j68_35_ok hd rfl rfl hf
      · replace hf := x_neg (show ¬ r_6.1 = 0 from c_7) hf
        refine ev_do i68_31 rfl ?_
        refine sh_goto (t := 36) i68_32 rfl ?_
        exact j68_36_ok hd rfl rfl hf
  · replace hf := x_neg (show ¬ v_1 = 0 from c_2) hf
    refine sh_aload (i' := 0) (n := 1) i68_7 (Or.inr ⟨rfl, by decide⟩) rfl ?_
    obtain ⟨_, eu_10, hf⟩ := x_bind hf
    obtain ⟨r_9, er_9, hf⟩ := x_bind hf
    refine sh_inv (as := []) (z := (some (.int r_9.1), r_9.2)) i68_8 v68_108 (Or.inl ⟨by decide, rfl⟩) m65 rfl (Nat.le_of_ble_eq_true rfl) eu_10 (fn65_call (by omega) er_9) ?_
    refine sh_goto (t := 36) i68_11 rfl ?_
    exact j68_36_ok hd rfl rfl hf
end
section
def fn70 (o0 : Option Nat) (x1 : Int32) (x2 : Int32) (h : xH) : Option (Int32 × xH) := (if (6 : Int32) < (2 : Int32) then some ((-1), h) else none)
theorem fn70_call {xs : List Int32} {d : Nat} (hd : 4 ≤ d) {o0 : Option Nat} {x1 : Int32} {x2 : Int32} {h : xH} {r : (Int32 × xH)} (hf : fn70 o0 x1 x2 h = some r) : xCall (xTa xs) d 70 [xrv o0, .int x1, .int x2] h (some (.int r.1), r.2) := by
  obtain ⟨d, rfl⟩ : ∃ d2, d = d2 + 1 := ⟨d - 1, by omega⟩
  replace hd : 3 ≤ d := by omega
  refine call_of2 (fl := [xrv o0, .int x1, .int x2]) (Ls := [xrv o0, .int x1, .int x2, .float 0, .float 0]) m70 (by simp [xfl, xrv_cat, xc_i, xc_j, xc_a, xc_f]) (Nat.le_of_ble_eq_true rfl) rfl ?_
  unfold fn70 at hf
  refine ev_do i70_0 rfl ?_
  refine sh_istore (i' := 3) (n := 1) i70_1 (Or.inr ⟨rfl, by decide⟩) (xokst_of (Nat.le_of_ble_eq_true rfl) rfl) ?_
  refine ev_do i70_2 rfl ?_
  refine ev_do i70_3 rfl ?_
  refine ev_icmp (t := 46) i70_5 rfl (fun c_1 => ?_) (fun c_1 => ?_)
  · replace hf := x_pos (show (6 : Int32) < (2 : Int32) from c_1) hf
    refine ev_do i70_46 rfl ?_
    obtain rfl := Option.some.inj hf
    exact sh_iret i70_47 m70 rfl rfl
  · replace hf := x_neg (show ¬ (6 : Int32) < (2 : Int32) from c_1) hf
    refine ev_do i70_8 rfl ?_
    cases hf
end
section
def fn73 (o0 : Option Nat) (x1 : Int32) (x2 : Int32) (h : xH) : Option (Int32 × xH) := (xgR h o0 7 0).bind fun a_1 => (xcv h a_1 9).bind fun _ => (fn101 a_1 0 h).bind fun h_2 => (xgR h_2 o0 7 0).bind fun a_3 => (xgR h_2 o0 7 2).bind fun a_4 => (xcv h_2 a_3 9).bind fun _ => (fn100 a_3 a_4 x1 x2 h_2).bind fun h_5 => (xgR h_5 o0 7 1).bind fun a_6 => (xgR h_5 o0 7 0).bind fun a_7 => (xcv h_5 a_6 1).bind fun _ => (fn10 a_6 a_7 h_5).bind fun r_8 => (if r_8.1 &&& 1 = r_8.1 then some (r_8.1, r_8.2) else none)
theorem fn73_call {xs : List Int32} {d : Nat} (hd : 4 ≤ d) {o0 : Option Nat} {x1 : Int32} {x2 : Int32} {h : xH} {r : (Int32 × xH)} (hf : fn73 o0 x1 x2 h = some r) : xCall (xTa xs) d 73 [xrv o0, .int x1, .int x2] h (some (.int r.1), r.2) := by
  obtain ⟨d, rfl⟩ : ∃ d2, d = d2 + 1 := ⟨d - 1, by omega⟩
  replace hd : 3 ≤ d := by omega
  refine call_of2 (fl := [xrv o0, .int x1, .int x2]) (Ls := [xrv o0, .int x1, .int x2]) m73 (by simp [xfl, xrv_cat, xc_i, xc_j, xc_a, xc_f]) (Nat.le_of_ble_eq_true rfl) rfl ?_
  unfold fn73 at hf
  refine sh_aload (i' := 0) (n := 1) i73_0 (Or.inr ⟨rfl, by decide⟩) rfl ?_
  obtain ⟨a_1, ea_1, hf⟩ := x_bind hf
  refine sh_getR i73_1 f73_14 ea_1 ?_
  refine ev_do i73_4 rfl ?_
  obtain ⟨_, eu_12, hf⟩ := x_bind hf
  obtain ⟨h_2, eh_2, hf⟩ := x_bind hf
  refine sh_inv (as := [.int 0]) (z := (none, h_2)) i73_5 v73_182 (Or.inl ⟨by decide, rfl⟩) m101 rfl (Nat.le_of_ble_eq_true rfl) eu_12 (fn101_call (by omega) eh_2) ?_
  refine sh_aload (i' := 0) (n := 1) i73_8 (Or.inr ⟨rfl, by decide⟩) rfl ?_
  obtain ⟨a_3, ea_3, hf⟩ := x_bind hf
  refine sh_getR i73_9 f73_14 ea_3 ?_
  refine sh_aload (i' := 0) (n := 1) i73_12 (Or.inr ⟨rfl, by decide⟩) rfl ?_
  obtain ⟨a_4, ea_4, hf⟩ := x_bind hf
  refine sh_getR i73_13 f73_29 ea_4 ?_
  refine ev_do i73_16 rfl ?_
  refine ev_do i73_17 rfl ?_
  obtain ⟨_, eu_11, hf⟩ := x_bind hf
  obtain ⟨h_5, eh_5, hf⟩ := x_bind hf
  refine sh_inv (as := [.int x2, .int x1, xrv a_4]) (z := (none, h_5)) i73_18 v73_185 (Or.inl ⟨by decide, rfl⟩) m100 rfl (Nat.le_of_ble_eq_true rfl) eu_11 (fn100_call (by omega) eh_5) ?_
  refine sh_aload (i' := 0) (n := 1) i73_21 (Or.inr ⟨rfl, by decide⟩) rfl ?_
  obtain ⟨a_6, ea_6, hf⟩ := x_bind hf
  refine sh_getR i73_22 f73_20 ea_6 ?_
  refine sh_aload (i' := 0) (n := 1) i73_25 (Or.inr ⟨rfl, by decide⟩) rfl ?_
  obtain ⟨a_7, ea_7, hf⟩ := x_bind hf
  refine sh_getR i73_26 f73_14 ea_7 ?_
  obtain ⟨_, eu_10, hf⟩ := x_bind hf
  obtain ⟨r_8, er_8, hf⟩ := x_bind hf
  refine sh_inv (as := [xrv a_7]) (z := (some (.int r_8.1), r_8.2)) i73_29 v73_189 (Or.inl ⟨by decide, rfl⟩) m10 rfl (Nat.le_of_ble_eq_true rfl) eu_10 (fn10_call (by omega) er_8) ?_
  by_cases c_9 : r_8.1 &&& 1 = r_8.1
  · replace hf := x_pos c_9 hf
    obtain rfl := Option.some.inj hf
    exact sh_iret i73_32 m73 rfl (congrArg Value.int c_9)
  · replace hf := x_neg c_9 hf
    cases hf
end
section
def l110_2  : Nat → Option Nat → Int32 → Int32 → Int32 → xH → Option (Int32 × xH)
  | 0 => fun _ _ _ _ _ => none
  | n + 1 => fun o0 x1 x2 x3 h => (if x2 ≤ x3 then (fn135 (x2 - x1) 1 4 h).bind fun r_2 => (if r_2.1 &&& 1 = r_2.1 then some (r_2.1, r_2.2) else none) else (xcv h o0 9).bind fun _ => (fn96 o0 x3 h).bind fun r_4 => (fn136 r_4.1 r_4.2).bind fun r_5 => (if r_5.1 = 0 then some (0, r_5.2) else l110_2 n o0 x1 x2 (x3 + 1) r_5.2))
theorem l110_2_ok {xs : List Int32} {d : Nat} (hd : 2 ≤ d) : ∀ (n : Nat) {o0 : Option Nat} {x1 : Int32} {x2 : Int32} {x3 : Int32} {h : xH} {r : (Int32 × xH)}, l110_2 n o0 x1 x2 x3 h = some r → xEv (xTa xs) d 110 (2, [xrv o0, .int x1, .int x2, .int x3], [], h) (some (.int r.1), r.2) := by
  intro n
  induction n with
  | zero => intros; rename_i hf; cases hf
  | succ n ih =>
    intro o0 x1 x2 x3 h r hf
    replace hf : ((if x2 ≤ x3 then (fn135 (x2 - x1) 1 4 h).bind fun r_2 => (if r_2.1 &&& 1 = r_2.1 then some (r_2.1, r_2.2) else none) else (xcv h o0 9).bind fun _ => (fn96 o0 x3 h).bind fun r_4 => (fn136 r_4.1 r_4.2).bind fun r_5 => (if r_5.1 = 0 then some (0, r_5.2) else l110_2 n o0 x1 x2 (x3 + 1) r_5.2))) = some r := hf
    refine ev_do i110_2 rfl ?_
    refine ev_do i110_3 rfl ?_
    refine ev_icmp (t := 26) i110_4 rfl (fun c_1 => ?_) (fun c_1 => ?_)
    · replace hf := x_pos (show x2 ≤ x3 from c_1) hf
      refine ev_do i110_26 rfl ?_
      refine ev_do i110_27 rfl ?_
      refine ev_do i110_28 rfl ?_
      refine ev_do i110_29 rfl ?_
      refine ev_do i110_30 rfl ?_
      obtain ⟨r_2, er_2, hf⟩ := x_bind hf
      refine ev_sta (as := [.int 4, .int 1, .int (x2 - x1)]) (z := (some (.int r_2.1), r_2.2)) i110_31 v110_57 (Or.inr rfl) m135 rfl (Nat.le_of_ble_eq_true rfl) (fn135_call (by omega) er_2) ?_
      by_cases c_3 : r_2.1 &&& 1 = r_2.1
      · replace hf := x_pos c_3 hf
        obtain rfl := Option.some.inj hf
        exact sh_iret i110_34 m110 rfl (congrArg Value.int c_3)
      · replace hf := x_neg c_3 hf
        cases hf
    · replace hf := x_neg (show ¬ x2 ≤ x3 from c_1) hf
      refine sh_aload (i' := 0) (n := 1) i110_7 (Or.inr ⟨rfl, by decide⟩) rfl ?_
      refine ev_do i110_8 rfl ?_
      obtain ⟨_, eu_7, hf⟩ := x_bind hf
      obtain ⟨r_4, er_4, hf⟩ := x_bind hf
      refine sh_inv (as := [.int x3]) (z := (some (.int r_4.1), r_4.2)) i110_9 v110_39 (Or.inl ⟨by decide, rfl⟩) m96 rfl (Nat.le_of_ble_eq_true rfl) eu_7 (fn96_call (by omega) er_4) ?_
      obtain ⟨r_5, er_5, hf⟩ := x_bind hf
      refine ev_sta (as := [.int r_4.1]) (z := (some (.int r_5.1), r_5.2)) i110_12 v110_50 (Or.inr rfl) m136 rfl (Nat.le_of_ble_eq_true rfl) (fn136_call (by omega) er_5) ?_
      refine ev_if (t := 20) i110_15 rfl (fun c_6 => ?_) (fun c_6 => ?_)
      · replace hf := x_neg (show ¬ r_5.1 = 0 from c_6) hf
        refine sh_inc (i' := 3) i110_20 rfl (xokst_of (Nat.le_of_ble_eq_true rfl) rfl) rfl ?_
        refine sh_goto (t := 2) i110_23 rfl ?_
        exact ih hf
      · replace hf := x_pos (show r_5.1 = 0 from Decidable.byContradiction (fun h9 => c_6 h9)) hf
        refine ev_do i110_18 rfl ?_
        obtain rfl := Option.some.inj hf
        exact sh_iret i110_19 m110 rfl (by decide)
def fn110 (o0 : Option Nat) (x1 : Int32) (x2 : Int32) (h : xH) : Option (Int32 × xH) := l110_2 xFuel o0 x1 x2 x1 h
theorem fn110_call {xs : List Int32} {d : Nat} (hd : 3 ≤ d) {o0 : Option Nat} {x1 : Int32} {x2 : Int32} {h : xH} {r : (Int32 × xH)} (hf : fn110 o0 x1 x2 h = some r) : xCall (xTa xs) d 110 [xrv o0, .int x1, .int x2] h (some (.int r.1), r.2) := by
  obtain ⟨d, rfl⟩ : ∃ d2, d = d2 + 1 := ⟨d - 1, by omega⟩
  replace hd : 2 ≤ d := by omega
  refine call_of2 (fl := [xrv o0, .int x1, .int x2]) (Ls := [xrv o0, .int x1, .int x2, .float 0]) m110 (by simp [xfl, xrv_cat, xc_i, xc_j, xc_a, xc_f]) (Nat.le_of_ble_eq_true rfl) rfl ?_
  unfold fn110 at hf
  refine ev_do i110_0 rfl ?_
  refine sh_istore (i' := 3) (n := 1) i110_1 (Or.inr ⟨rfl, by decide⟩) (xokst_of (Nat.le_of_ble_eq_true rfl) rfl) ?_
  exact l110_2_ok hd xFuel hf
end
section
def j72_130  (o0 : Option Nat) (x1 : Int32) (x2 : Int32) (x3 : Int32) (x4 : Int32) (x5 : Int32) (x6 : Int32) (h : xH) : Option (Int32 × xH) := (xgR h o0 7 3).bind fun a_1 => (xpF h a_1 0 6 .int (.int x4)).bind fun h_2 => (xgR h_2 o0 7 3).bind fun a_3 => (xpF h_2 a_3 0 7 .int (.int x5)).bind fun h_4 => some (x5, h_4)
theorem j72_130_ok {xs : List Int32} {d : Nat} (hd : 4 ≤ d) {o0 : Option Nat} {x1 : Int32} {x2 : Int32} {x3 : Int32} {x4 : Int32} {x5 : Int32} {x6 : Int32} {h : xH} {r : (Int32 × xH)} (hf : j72_130 o0 x1 x2 x3 x4 x5 x6 h = some r) : xEv (xTa xs) d 72 (130, [xrv o0, .int x1, .int x2, .int x3, .int x4, .int x5, .int x6], [], h) (some (.int r.1), r.2) := by
  unfold j72_130 at hf
  refine sh_aload (i' := 0) (n := 1) i72_130 (Or.inr ⟨rfl, by decide⟩) rfl ?_
  obtain ⟨a_1, ea_1, hf⟩ := x_bind hf
  refine sh_getR i72_131 f72_30 ea_1 ?_
  refine ev_do i72_134 rfl ?_
  obtain ⟨h_2, eh_2, hf⟩ := x_bind hf
  refine sh_put i72_136 f72_176 (by decide) rfl eh_2 ?_
  refine sh_aload (i' := 0) (n := 1) i72_139 (Or.inr ⟨rfl, by decide⟩) rfl ?_
  obtain ⟨a_3, ea_3, hf⟩ := x_bind hf
  refine sh_getR i72_140 f72_30 ea_3 ?_
  refine ev_do i72_143 rfl ?_
  obtain ⟨h_4, eh_4, hf⟩ := x_bind hf
  refine sh_put i72_145 f72_179 (by decide) rfl eh_4 ?_
  refine ev_do i72_148 rfl ?_
  obtain rfl := Option.some.inj hf
  exact sh_iret i72_150 m72 rfl rfl
def j72_93  (o0 : Option Nat) (x1 : Int32) (x2 : Int32) (x3 : Int32) (x4 : Int32) (x5 : Int32) (x6 : Int32) (h : xH) : Option (Int32 × xH) := (xcv h o0 7).bind fun _ => (fn62 o0 x4 2 h).bind fun h_1 => some (x3, h_1)
theorem j72_93_ok {xs : List Int32} {d : Nat} (hd : 4 ≤ d) {o0 : Option Nat} {x1 : Int32} {x2 : Int32} {x3 : Int32} {x4 : Int32} {x5 : Int32} {x6 : Int32} {h : xH} {r : (Int32 × xH)} (hf : j72_93 o0 x1 x2 x3 x4 x5 x6 h = some r) : xEv (xTa xs) d 72 (93, [xrv o0, .int x1, .int x2, .int x3, .int x4, .int x5, .int x6], [], h) (some (.int r.1), r.2) := by
  unfold j72_93 at hf
  refine sh_aload (i' := 0) (n := 1) i72_93 (Or.inr ⟨rfl, by decide⟩) rfl ?_
  refine ev_do i72_94 rfl ?_
  refine ev_do i72_96 rfl ?_
  obtain ⟨_, eu_2, hf⟩ := x_bind hf
  obtain ⟨h_1, eh_1, hf⟩ := x_bind hf
  refine sh_inv (as := [.int 2, .int x4]) (z := (none, h_1)) i72_97 v72_81 (Or.inl ⟨by decide, rfl⟩) m62 rfl (Nat.le_of_ble_eq_true rfl) eu_2 (fn62_call (by omega) eh_1) ?_
  refine ev_do i72_100 rfl ?_
  obtain rfl := Option.some.inj hf
  exact sh_iret i72_101 m72 rfl rfl
def j72_81  (o0 : Option Nat) (x1 : Int32) (x2 : Int32) (x3 : Int32) (x4 : Int32) (x5 : Int32) (x6 : Int32) (h : xH) : Option (Int32 × xH) := (if x6 = 0 then j72_93 o0 x1 x2 x3 x4 x5 x6 h else (xgR h o0 7 3).bind fun a_2 => (if a_2 = none then j72_93 o0 x1 x2 x3 x4 x5 x6 h else (if x1 = 2 then (xcv h o0 7).bind fun _ => (fn73 o0 x4 x5 h).bind fun r_5 => (if r_5.1 = 0 then j72_130 o0 x1 x2 x3 x4 x5 x6 r_5.2 else (xgR r_5.2 o0 7 3).bind fun a_7 => (xgI r_5.2 a_7 0 2).bind fun v_8 => (xcv r_5.2 o0 7).bind fun _ => (fn62 o0 v_8 5 r_5.2).bind fun h_9 => j72_130 o0 x1 x2 x3 x4 x5 x6 h_9) else j72_130 o0 x1 x2 x3 x4 x5 x6 h)))
theorem j72_81_ok {xs : List Int32} {d : Nat} (hd : 4 ≤ d) {o0 : Option Nat} {x1 : Int32} {x2 : Int32} {x3 : Int32} {x4 : Int32} {x5 : Int32} {x6 : Int32} {h : xH} {r : (Int32 × xH)} (hf : j72_81 o0 x1 x2 x3 x4 x5 x6 h = some r) : xEv (xTa xs) d 72 (81, [xrv o0, .int x1, .int x2, .int x3, .int x4, .int x5, .int x6], [], h) (some (.int r.1), r.2) := by
  unfold j72_81 at hf
  refine ev_do i72_81 rfl ?_
  refine ev_if (t := 93) i72_83 rfl (fun c_1 => ?_) (fun c_1 => ?_)
  · replace hf := x_pos (show x6 = 0 from c_1) hf
    exact j72_93_ok hd hf
  · replace hf := x_neg (show ¬ x6 = 0 from c_1) hf
    refine sh_aload (i' := 0) (n := 1) i72_86 (Or.inr ⟨rfl, by decide⟩) rfl ?_
    obtain ⟨a_2, ea_2, hf⟩ := x_bind hf
    refine sh_getR i72_87 f72_30 ea_2 ?_
    refine sh_nnul (t := 102) i72_90 rfl (fun c_3 => ?_) (fun c_3 => ?_)
    · replace hf := x_pos c_3 hf
      exact j72_93_ok hd hf
    · replace hf := x_neg c_3 hf
      refine ev_do i72_102 rfl ?_
      refine ev_do i72_103 rfl ?_
      refine ev_icmp (t := 130) i72_104 rfl (fun c_4 => ?_) (fun c_4 => ?_)
      · replace hf := x_neg (show ¬ x1 = 2 from c_4) hf
        exact j72_130_ok hd hf
      · replace hf := x_pos (show x1 = 2 from Decidable.byContradiction (fun h9 => c_4 h9)) hf
        refine sh_aload (i' := 0) (n := 1) i72_107 (Or.inr ⟨rfl, by decide⟩) rfl ?_
        refine ev_do i72_108 rfl ?_
        refine ev_do i72_110 rfl ?_
        obtain ⟨_, eu_11, hf⟩ := x_bind hf
        obtain ⟨r_5, er_5, hf⟩ := x_bind hf
        refine sh_inv (as := [.int x5, .int x4]) (z := (some (.int r_5.1), r_5.2)) i72_112 v72_172 (Or.inl ⟨by decide, rfl⟩) m73 rfl (Nat.le_of_ble_eq_true rfl) eu_11 (fn73_call (by omega) er_5) ?_
        refine ev_if (t := 130) i72_115 rfl (fun c_6 => ?_) (fun c_6 => ?_)
        · replace hf := x_pos (show r_5.1 = 0 from c_6) hf
          exact j72_130_ok hd hf
        · replace hf := x_neg (show ¬ r_5.1 = 0 from c_6) hf
          refine sh_aload (i' := 0) (n := 1) i72_118 (Or.inr ⟨rfl, by decide⟩) rfl ?_
          refine sh_aload (i' := 0) (n := 1) i72_119 (Or.inr ⟨rfl, by decide⟩) rfl ?_
          obtain ⟨a_7, ea_7, hf⟩ := x_bind hf
          refine sh_getR i72_120 f72_30 ea_7 ?_
          obtain ⟨v_8, ev_8, hf⟩ := x_bind hf
          refine sh_getI i72_123 f72_175 ev_8 ?_
          refine ev_do i72_126 rfl ?_
          obtain ⟨_, eu_10, hf⟩ := x_bind hf
          obtain ⟨h_9, eh_9, hf⟩ := x_bind hf
          refine sh_inv (as := [.int 5, .int v_8]) (z := (none, h_9)) i72_127 v72_81 (Or.inl ⟨by decide, rfl⟩) m62 rfl (Nat.le_of_ble_eq_true rfl) eu_10 (fn62_call (by omega) eh_9) ?_
          exact j72_130_ok hd hf
def fn72 (o0 : Option Nat) (x1 : Int32) (x2 : Int32) (x3 : Int32) (h : xH) : Option (Int32 × xH) := (xgR h o0 7 2).bind fun a_1 => (xcv h a_1 9).bind fun _ => (fn106 a_1 x2 x3 h).bind fun r_2 => (xgR r_2.2 o0 7 2).bind fun a_3 => (xcv r_2.2 a_3 9).bind fun _ => (fn105 a_3 32 r_2.1 x3 r_2.2).bind fun r_4 => (if x1 = 2 then (xgR r_4.2 o0 7 2).bind fun a_6 => (xcv r_4.2 a_6 9).bind fun _ => (fn107 a_6 r_2.1 r_4.1 r_4.2).bind fun r_7 => j72_81 o0 x1 x2 x3 r_2.1 r_4.1 r_7.1 r_7.2 else (if x1 = 6 then (xgR r_4.2 o0 7 2).bind fun a_10 => (xcv r_4.2 a_10 9).bind fun _ => (fn110 a_10 r_2.1 r_4.1 r_4.2).bind fun r_11 => j72_81 o0 x1 x2 x3 r_2.1 r_4.1 r_11.1 r_11.2 else (xgR r_4.2 o0 7 2).bind fun a_13 => (xcv r_4.2 a_13 9).bind fun _ => (fn109 a_13 r_2.1 r_4.1 r_4.2).bind fun r_14 => j72_81 o0 x1 x2 x3 r_2.1 r_4.1 r_14.1 r_14.2))
theorem fn72_call {xs : List Int32} {d : Nat} (hd : 5 ≤ d) {o0 : Option Nat} {x1 : Int32} {x2 : Int32} {x3 : Int32} {h : xH} {r : (Int32 × xH)} (hf : fn72 o0 x1 x2 x3 h = some r) : xCall (xTa xs) d 72 [xrv o0, .int x1, .int x2, .int x3] h (some (.int r.1), r.2) := by
  obtain ⟨d, rfl⟩ : ∃ d2, d = d2 + 1 := ⟨d - 1, by omega⟩
  replace hd : 4 ≤ d := by omega
  refine call_of2 (fl := [xrv o0, .int x1, .int x2, .int x3]) (Ls := [xrv o0, .int x1, .int x2, .int x3, .float 0, .float 0, .float 0]) m72 (by simp [xfl, xrv_cat, xc_i, xc_j, xc_a, xc_f]) (Nat.le_of_ble_eq_true rfl) rfl ?_
  unfold fn72 at hf
  refine sh_aload (i' := 0) (n := 1) i72_0 (Or.inr ⟨rfl, by decide⟩) rfl ?_
  obtain ⟨a_1, ea_1, hf⟩ := x_bind hf
  refine sh_getR i72_1 f72_29 ea_1 ?_
  refine ev_do i72_4 rfl ?_
  refine ev_do i72_5 rfl ?_
  obtain ⟨_, eu_17, hf⟩ := x_bind hf
  obtain ⟨r_2, er_2, hf⟩ := x_bind hf
  refine sh_inv (as := [.int x3, .int x2]) (z := (some (.int r_2.1), r_2.2)) i72_6 v72_55 (Or.inl ⟨by decide, rfl⟩) m106 rfl (Nat.le_of_ble_eq_true rfl) eu_17 (fn106_call (by omega) er_2) ?_
  refine sh_istore (i' := 4) (n := 2) i72_9 (Or.inl rfl) (xokst_of (Nat.le_of_ble_eq_true rfl) rfl) ?_
  refine sh_aload (i' := 0) (n := 1) i72_11 (Or.inr ⟨rfl, by decide⟩) rfl ?_
  obtain ⟨a_3, ea_3, hf⟩ := x_bind hf
  refine sh_getR i72_12 f72_29 ea_3 ?_
  refine ev_do i72_15 rfl ?_
  refine ev_do i72_17 rfl ?_
  refine ev_do i72_19 rfl ?_
  obtain ⟨_, eu_16, hf⟩ := x_bind hf
  obtain ⟨r_4, er_4, hf⟩ := x_bind hf
  refine sh_inv (as := [.int x3, .int r_2.1, .int 32]) (z := (some (.int r_4.1), r_4.2)) i72_20 v72_51 (Or.inl ⟨by decide, rfl⟩) m105 rfl (Nat.le_of_ble_eq_true rfl) eu_16 (fn105_call (by omega) er_4) ?_
  refine sh_istore (i' := 5) (n := 2) i72_23 (Or.inl rfl) (xokst_of (Nat.le_of_ble_eq_true rfl) rfl) ?_
  refine ev_do i72_25 rfl ?_
  refine ev_do i72_26 rfl ?_
  refine ev_icmp (t := 46) i72_27 rfl (fun c_5 => ?_) (fun c_5 => ?_)
  · replace hf := x_neg (show ¬ x1 = 2 from c_5) hf
    refine ev_do i72_46 rfl ?_
    refine ev_do i72_47 rfl ?_
    refine ev_icmp (t := 68) i72_49 rfl (fun c_9 => ?_) (fun c_9 => ?_)
    · replace hf := x_neg (show ¬ x1 = 6 from c_9) hf
      refine sh_aload (i' := 0) (n := 1) i72_68 (Or.inr ⟨rfl, by decide⟩) rfl ?_
      obtain ⟨a_13, ea_13, hf⟩ := x_bind hf
      refine sh_getR i72_69 f72_29 ea_13 ?_
      refine ev_do i72_72 rfl ?_
      refine ev_do i72_74 rfl ?_
      obtain ⟨_, eu_15, hf⟩ := x_bind hf
      obtain ⟨r_14, er_14, hf⟩ := x_bind hf
      refine sh_inv (as := [.int r_4.1, .int r_2.1]) (z := (some (.int r_14.1), r_14.2)) i72_76 v72_169 (Or.inl ⟨by decide, rfl⟩) m109 rfl (Nat.le_of_ble_eq_true rfl) eu_15 (fn109_call (by omega) er_14) ?_
      refine sh_istore (i' := 6) (n := 2) i72_79 (Or.inl rfl) (xokst_of (Nat.le_of_ble_eq_true rfl) rfl) ?_
      exact j72_81_ok hd hf
    · replace hf := x_pos (show x1 = 6 from Decidable.byContradiction (fun h9 => c_9 h9)) hf
      refine sh_aload (i' := 0) (n := 1) i72_52 (Or.inr ⟨rfl, by decide⟩) rfl ?_
      obtain ⟨a_10, ea_10, hf⟩ := x_bind hf
      refine sh_getR i72_53 f72_29 ea_10 ?_
      refine ev_do i72_56 rfl ?_
      refine ev_do i72_58 rfl ?_
      obtain ⟨_, eu_12, hf⟩ := x_bind hf
      obtain ⟨r_11, er_11, hf⟩ := x_bind hf
      refine sh_inv (as := [.int r_4.1, .int r_2.1]) (z := (some (.int r_11.1), r_11.2)) i72_60 v72_166 (Or.inl ⟨by decide, rfl⟩) m110 rfl (Nat.le_of_ble_eq_true rfl) eu_12 (fn110_call (by omega) er_11) ?_
      refine sh_istore (i' := 6) (n := 2) i72_63 (Or.inl rfl) (xokst_of (Nat.le_of_ble_eq_true rfl) rfl) ?_
      refine sh_goto (t := 81) i72_65 rfl ?_
      exact j72_81_ok hd hf
  · replace hf := x_pos (show x1 = 2 from Decidable.byContradiction (fun h9 => c_5 h9)) hf
    refine sh_aload (i' := 0) (n := 1) i72_30 (Or.inr ⟨rfl, by decide⟩) rfl ?_
    obtain ⟨a_6, ea_6, hf⟩ := x_bind hf
    refine sh_getR i72_31 f72_29 ea_6 ?_
    refine ev_do i72_34 rfl ?_
    refine ev_do i72_36 rfl ?_
    obtain ⟨_, eu_8, hf⟩ := x_bind hf
    obtain ⟨r_7, er_7, hf⟩ := x_bind hf
    refine sh_inv (as := [.int r_4.1, .int r_2.1]) (z := (some (.int r_7.1), r_7.2)) i72_38 v72_163 (Or.inl ⟨by decide, rfl⟩) m107 rfl (Nat.le_of_ble_eq_true rfl) eu_8 (fn107_call (by omega) er_7) ?_
    refine sh_istore (i' := 6) (n := 2) i72_41 (Or.inl rfl) (xokst_of (Nat.le_of_ble_eq_true rfl) rfl) ?_
    refine sh_goto (t := 81) i72_43 rfl ?_
    exact j72_81_ok hd hf
end
